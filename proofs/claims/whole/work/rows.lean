section
-- ===== PART A: goes FIRST, ahead of the names: the tables' words, and 'selects' of the private methods out of them =====
/-- a private method of a class that the tables say can be made, by its rows of tables_1 -/
def lw_okq (q : MethodName × Nat) : Prop := (q.1.cls ≠ "java/lang/invoke/MethodHandle" ∧ q.1.cls ≠ "java/lang/invoke/VarHandle") ∧ Cond.instantiable q.1.cls q.2 ∈ tables_1 ∧ Cond.privateMethod q.1 ∈ tables_1 ∧ Cond.instanceMethod q.1 ∈ tables_1
theorem lw_p0 : lw_okq (⟨"java/lang/Throwable", "fillInStackTrace", "(I)Ljava/lang/Throwable;"⟩, 6) := ⟨⟨by decide +kernel, by decide +kernel⟩, List.mem_of_getElem? (i := 290) (by decide +kernel), List.mem_of_getElem? (i := 288) (by decide +kernel), List.mem_of_getElem? (i := 289) (by decide +kernel)⟩
theorem lw_p1 : lw_okq (⟨"LazyTester$DepthTable", "fillType", "(II)V"⟩, 3) := ⟨⟨by decide +kernel, by decide +kernel⟩, List.mem_of_getElem? (i := 47) (by decide +kernel), List.mem_of_getElem? (i := 371) (by decide +kernel), List.mem_of_getElem? (i := 372) (by decide +kernel)⟩
theorem lw_p2 : lw_okq (⟨"LazyTester$SizeTable", "fillType", "(II)V"⟩, 3) := ⟨⟨by decide +kernel, by decide +kernel⟩, List.mem_of_getElem? (i := 64) (by decide +kernel), List.mem_of_getElem? (i := 407) (by decide +kernel), List.mem_of_getElem? (i := 408) (by decide +kernel)⟩
theorem lw_p3 : lw_okq (⟨"LazyTester$SizeTable", "waysToShare", "(III)J"⟩, 3) := ⟨⟨by decide +kernel, by decide +kernel⟩, List.mem_of_getElem? (i := 64) (by decide +kernel), List.mem_of_getElem? (i := 414) (by decide +kernel), List.mem_of_getElem? (i := 415) (by decide +kernel)⟩
theorem lw_p4 : lw_okq (⟨"LazyTester$Value", "fillIn", "(IIJ)V"⟩, 5) := ⟨⟨by decide +kernel, by decide +kernel⟩, List.mem_of_getElem? (i := 93) (by decide +kernel), List.mem_of_getElem? (i := 454) (by decide +kernel), List.mem_of_getElem? (i := 455) (by decide +kernel)⟩
theorem lw_p5 : lw_okq (⟨"LazyTester$Value", "place", "(II)V"⟩, 5) := ⟨⟨by decide +kernel, by decide +kernel⟩, List.mem_of_getElem? (i := 93) (by decide +kernel), List.mem_of_getElem? (i := 464) (by decide +kernel), List.mem_of_getElem? (i := 465) (by decide +kernel)⟩
theorem lw_p6 : lw_okq (⟨"LazyTester$Value", "leaveOpen", "(I)V"⟩, 5) := ⟨⟨by decide +kernel, by decide +kernel⟩, List.mem_of_getElem? (i := 93) (by decide +kernel), List.mem_of_getElem? (i := 473) (by decide +kernel), List.mem_of_getElem? (i := 474) (by decide +kernel)⟩
theorem lw_p7 : lw_okq (⟨"LazyTester$Value", "writePart", "(LLazyTester$Row;II)V"⟩, 5) := ⟨⟨by decide +kernel, by decide +kernel⟩, List.mem_of_getElem? (i := 93) (by decide +kernel), List.mem_of_getElem? (i := 486) (by decide +kernel), List.mem_of_getElem? (i := 487) (by decide +kernel)⟩
theorem lw_p8 : lw_okq (⟨"LazyTester$SizedValues", "writePart", "(IIJ)V"⟩, 4) := ⟨⟨by decide +kernel, by decide +kernel⟩, List.mem_of_getElem? (i := 115) (by decide +kernel), List.mem_of_getElem? (i := 522) (by decide +kernel), List.mem_of_getElem? (i := 523) (by decide +kernel)⟩
theorem lw_p9 : lw_okq (⟨"LazyTester$SizedValues", "writeFields", "(IIJ)V"⟩, 4) := ⟨⟨by decide +kernel, by decide +kernel⟩, List.mem_of_getElem? (i := 115) (by decide +kernel), List.mem_of_getElem? (i := 530) (by decide +kernel), List.mem_of_getElem? (i := 531) (by decide +kernel)⟩
theorem lw_p10 : lw_okq (⟨"LazyTester$SizedValues", "share", "(IIJ)J"⟩, 4) := ⟨⟨by decide +kernel, by decide +kernel⟩, List.mem_of_getElem? (i := 115) (by decide +kernel), List.mem_of_getElem? (i := 534) (by decide +kernel), List.mem_of_getElem? (i := 535) (by decide +kernel)⟩
theorem lw_p11 : lw_okq (⟨"LazyTester$SizedValues", "waysWithPart", "(IIII)J"⟩, 4) := ⟨⟨by decide +kernel, by decide +kernel⟩, List.mem_of_getElem? (i := 115) (by decide +kernel), List.mem_of_getElem? (i := 540) (by decide +kernel), List.mem_of_getElem? (i := 541) (by decide +kernel)⟩
theorem lw_p12 : lw_okq (⟨"LazyTester$SizedValues", "waysAfter", "(III)J"⟩, 4) := ⟨⟨by decide +kernel, by decide +kernel⟩, List.mem_of_getElem? (i := 115) (by decide +kernel), List.mem_of_getElem? (i := 545) (by decide +kernel), List.mem_of_getElem? (i := 546) (by decide +kernel)⟩
theorem lw_p13 : lw_okq (⟨"LazyTester", "requireRoomOnPile", "()V"⟩, 10) := ⟨⟨by decide +kernel, by decide +kernel⟩, List.mem_of_getElem? (i := 22) (by decide +kernel), List.mem_of_getElem? (i := 564) (by decide +kernel), List.mem_of_getElem? (i := 565) (by decide +kernel)⟩
theorem lw_p14 : lw_okq (⟨"LazyTester", "requireProperty", "()V"⟩, 10) := ⟨⟨by decide +kernel, by decide +kernel⟩, List.mem_of_getElem? (i := 22) (by decide +kernel), List.mem_of_getElem? (i := 613) (by decide +kernel), List.mem_of_getElem? (i := 614) (by decide +kernel)⟩
theorem lw_p15 : lw_okq (⟨"LazyTester", "firstFalse", "(III)I"⟩, 10) := ⟨⟨by decide +kernel, by decide +kernel⟩, List.mem_of_getElem? (i := 22) (by decide +kernel), List.mem_of_getElem? (i := 620) (by decide +kernel), List.mem_of_getElem? (i := 621) (by decide +kernel)⟩
def lw_privs_1 : List (MethodName × Nat) := [(⟨"java/lang/Throwable", "fillInStackTrace", "(I)Ljava/lang/Throwable;"⟩, 6), (⟨"LazyTester$DepthTable", "fillType", "(II)V"⟩, 3), (⟨"LazyTester$SizeTable", "fillType", "(II)V"⟩, 3), (⟨"LazyTester$SizeTable", "waysToShare", "(III)J"⟩, 3), (⟨"LazyTester$Value", "fillIn", "(IIJ)V"⟩, 5), (⟨"LazyTester$Value", "place", "(II)V"⟩, 5), (⟨"LazyTester$Value", "leaveOpen", "(I)V"⟩, 5), (⟨"LazyTester$Value", "writePart", "(LLazyTester$Row;II)V"⟩, 5), (⟨"LazyTester$SizedValues", "writePart", "(IIJ)V"⟩, 4), (⟨"LazyTester$SizedValues", "writeFields", "(IIJ)V"⟩, 4), (⟨"LazyTester$SizedValues", "share", "(IIJ)J"⟩, 4), (⟨"LazyTester$SizedValues", "waysWithPart", "(IIII)J"⟩, 4), (⟨"LazyTester$SizedValues", "waysAfter", "(III)J"⟩, 4), (⟨"LazyTester", "requireRoomOnPile", "()V"⟩, 10), (⟨"LazyTester", "requireProperty", "()V"⟩, 10), (⟨"LazyTester", "firstFalse", "(III)I"⟩, 10)]
theorem lw_r1 : ∀ q ∈ lw_privs_1, lw_okq q := List.forall_mem_cons.mpr ⟨lw_p0, List.forall_mem_cons.mpr ⟨lw_p1, List.forall_mem_cons.mpr ⟨lw_p2, List.forall_mem_cons.mpr ⟨lw_p3, List.forall_mem_cons.mpr ⟨lw_p4, List.forall_mem_cons.mpr ⟨lw_p5, List.forall_mem_cons.mpr ⟨lw_p6, List.forall_mem_cons.mpr ⟨lw_p7, List.forall_mem_cons.mpr ⟨lw_p8, List.forall_mem_cons.mpr ⟨lw_p9, List.forall_mem_cons.mpr ⟨lw_p10, List.forall_mem_cons.mpr ⟨lw_p11, List.forall_mem_cons.mpr ⟨lw_p12, List.forall_mem_cons.mpr ⟨lw_p13, List.forall_mem_cons.mpr ⟨lw_p14, List.forall_mem_cons.mpr ⟨lw_p15, fun _ h => absurd h List.not_mem_nil⟩⟩⟩⟩⟩⟩⟩⟩⟩⟩⟩⟩⟩⟩⟩⟩
theorem lw_p16 : lw_okq (⟨"LazyTester$Pile", "evaluate", "(ILLazyTester$Value;)I"⟩, 6) := ⟨⟨by decide +kernel, by decide +kernel⟩, List.mem_of_getElem? (i := 134) (by decide +kernel), List.mem_of_getElem? (i := 628) (by decide +kernel), List.mem_of_getElem? (i := 629) (by decide +kernel)⟩
theorem lw_p17 : lw_okq (⟨"LazyTester$Value", "goAlong", "(I)I"⟩, 5) := ⟨⟨by decide +kernel, by decide +kernel⟩, List.mem_of_getElem? (i := 93) (by decide +kernel), List.mem_of_getElem? (i := 636) (by decide +kernel), List.mem_of_getElem? (i := 637) (by decide +kernel)⟩
theorem lw_p18 : lw_okq (⟨"LazyTester$Value", "compare", "(III)I"⟩, 5) := ⟨⟨by decide +kernel, by decide +kernel⟩, List.mem_of_getElem? (i := 93) (by decide +kernel), List.mem_of_getElem? (i := 647) (by decide +kernel), List.mem_of_getElem? (i := 648) (by decide +kernel)⟩
theorem lw_p19 : lw_okq (⟨"LazyTester$Value", "waysToFill", "(II)J"⟩, 5) := ⟨⟨by decide +kernel, by decide +kernel⟩, List.mem_of_getElem? (i := 93) (by decide +kernel), List.mem_of_getElem? (i := 674) (by decide +kernel), List.mem_of_getElem? (i := 675) (by decide +kernel)⟩
theorem lw_p20 : lw_okq (⟨"LazyTester$Refining", "advance", "(I)Z"⟩, 6) := ⟨⟨by decide +kernel, by decide +kernel⟩, List.mem_of_getElem? (i := 159) (by decide +kernel), List.mem_of_getElem? (i := 683) (by decide +kernel), List.mem_of_getElem? (i := 684) (by decide +kernel)⟩
theorem lw_p21 : lw_okq (⟨"LazyTesterModel", "findDeep", "()V"⟩, 27) := ⟨⟨by decide +kernel, by decide +kernel⟩, List.mem_of_getElem? (i := 706) (by decide +kernel), List.mem_of_getElem? (i := 812) (by decide +kernel), List.mem_of_getElem? (i := 813) (by decide +kernel)⟩
theorem lw_p22 : lw_okq (⟨"LazyTesterModel", "deepWith", "(III)J"⟩, 27) := ⟨⟨by decide +kernel, by decide +kernel⟩, List.mem_of_getElem? (i := 706) (by decide +kernel), List.mem_of_getElem? (i := 816) (by decide +kernel), List.mem_of_getElem? (i := 817) (by decide +kernel)⟩
theorem lw_p23 : lw_okq (⟨"LazyTesterModel", "fieldType", "(III)I"⟩, 27) := ⟨⟨by decide +kernel, by decide +kernel⟩, List.mem_of_getElem? (i := 706) (by decide +kernel), List.mem_of_getElem? (i := 820) (by decide +kernel), List.mem_of_getElem? (i := 821) (by decide +kernel)⟩
theorem lw_p24 : lw_okq (⟨"LazyTesterModel", "findSizes", "()V"⟩, 27) := ⟨⟨by decide +kernel, by decide +kernel⟩, List.mem_of_getElem? (i := 706) (by decide +kernel), List.mem_of_getElem? (i := 838) (by decide +kernel), List.mem_of_getElem? (i := 839) (by decide +kernel)⟩
theorem lw_p25 : lw_okq (⟨"LazyTesterModel", "sizedWith", "(III)J"⟩, 27) := ⟨⟨by decide +kernel, by decide +kernel⟩, List.mem_of_getElem? (i := 706) (by decide +kernel), List.mem_of_getElem? (i := 842) (by decide +kernel), List.mem_of_getElem? (i := 843) (by decide +kernel)⟩
theorem lw_p26 : lw_okq (⟨"LazyTesterModel", "sizedBy", "(IIIII)J"⟩, 27) := ⟨⟨by decide +kernel, by decide +kernel⟩, List.mem_of_getElem? (i := 706) (by decide +kernel), List.mem_of_getElem? (i := 846) (by decide +kernel), List.mem_of_getElem? (i := 847) (by decide +kernel)⟩
theorem lw_p27 : lw_okq (⟨"LazyTesterModel", "ofSize", "(II)J"⟩, 27) := ⟨⟨by decide +kernel, by decide +kernel⟩, List.mem_of_getElem? (i := 706) (by decide +kernel), List.mem_of_getElem? (i := 850) (by decide +kernel), List.mem_of_getElem? (i := 851) (by decide +kernel)⟩
theorem lw_p28 : lw_okq (⟨"LazyTesterModel", "build", "(IIJ)V"⟩, 27) := ⟨⟨by decide +kernel, by decide +kernel⟩, List.mem_of_getElem? (i := 706) (by decide +kernel), List.mem_of_getElem? (i := 858) (by decide +kernel), List.mem_of_getElem? (i := 859) (by decide +kernel)⟩
theorem lw_p29 : lw_okq (⟨"LazyTesterModel", "clearValue", "()V"⟩, 27) := ⟨⟨by decide +kernel, by decide +kernel⟩, List.mem_of_getElem? (i := 706) (by decide +kernel), List.mem_of_getElem? (i := 862) (by decide +kernel), List.mem_of_getElem? (i := 863) (by decide +kernel)⟩
theorem lw_p30 : lw_okq (⟨"LazyTesterModel", "push", "(IIJ)V"⟩, 27) := ⟨⟨by decide +kernel, by decide +kernel⟩, List.mem_of_getElem? (i := 706) (by decide +kernel), List.mem_of_getElem? (i := 866) (by decide +kernel), List.mem_of_getElem? (i := 867) (by decide +kernel)⟩
theorem lw_p31 : lw_okq (⟨"LazyTesterModel", "place", "(IIIJ)V"⟩, 27) := ⟨⟨by decide +kernel, by decide +kernel⟩, List.mem_of_getElem? (i := 706) (by decide +kernel), List.mem_of_getElem? (i := 873) (by decide +kernel), List.mem_of_getElem? (i := 874) (by decide +kernel)⟩
def lw_privs_2 : List (MethodName × Nat) := [(⟨"LazyTester$Pile", "evaluate", "(ILLazyTester$Value;)I"⟩, 6), (⟨"LazyTester$Value", "goAlong", "(I)I"⟩, 5), (⟨"LazyTester$Value", "compare", "(III)I"⟩, 5), (⟨"LazyTester$Value", "waysToFill", "(II)J"⟩, 5), (⟨"LazyTester$Refining", "advance", "(I)Z"⟩, 6), (⟨"LazyTesterModel", "findDeep", "()V"⟩, 27), (⟨"LazyTesterModel", "deepWith", "(III)J"⟩, 27), (⟨"LazyTesterModel", "fieldType", "(III)I"⟩, 27), (⟨"LazyTesterModel", "findSizes", "()V"⟩, 27), (⟨"LazyTesterModel", "sizedWith", "(III)J"⟩, 27), (⟨"LazyTesterModel", "sizedBy", "(IIIII)J"⟩, 27), (⟨"LazyTesterModel", "ofSize", "(II)J"⟩, 27), (⟨"LazyTesterModel", "build", "(IIJ)V"⟩, 27), (⟨"LazyTesterModel", "clearValue", "()V"⟩, 27), (⟨"LazyTesterModel", "push", "(IIJ)V"⟩, 27), (⟨"LazyTesterModel", "place", "(IIIJ)V"⟩, 27)]
theorem lw_r2 : ∀ q ∈ lw_privs_2, lw_okq q := List.forall_mem_cons.mpr ⟨lw_p16, List.forall_mem_cons.mpr ⟨lw_p17, List.forall_mem_cons.mpr ⟨lw_p18, List.forall_mem_cons.mpr ⟨lw_p19, List.forall_mem_cons.mpr ⟨lw_p20, List.forall_mem_cons.mpr ⟨lw_p21, List.forall_mem_cons.mpr ⟨lw_p22, List.forall_mem_cons.mpr ⟨lw_p23, List.forall_mem_cons.mpr ⟨lw_p24, List.forall_mem_cons.mpr ⟨lw_p25, List.forall_mem_cons.mpr ⟨lw_p26, List.forall_mem_cons.mpr ⟨lw_p27, List.forall_mem_cons.mpr ⟨lw_p28, List.forall_mem_cons.mpr ⟨lw_p29, List.forall_mem_cons.mpr ⟨lw_p30, List.forall_mem_cons.mpr ⟨lw_p31, fun _ h => absurd h List.not_mem_nil⟩⟩⟩⟩⟩⟩⟩⟩⟩⟩⟩⟩⟩⟩⟩⟩
theorem lw_p32 : lw_okq (⟨"LazyTesterModel", "showValue", "()V"⟩, 27) := ⟨⟨by decide +kernel, by decide +kernel⟩, List.mem_of_getElem? (i := 706) (by decide +kernel), List.mem_of_getElem? (i := 877) (by decide +kernel), List.mem_of_getElem? (i := 878) (by decide +kernel)⟩
theorem lw_p33 : lw_okq (⟨"LazyTesterModel", "showNext", "(IIJ)V"⟩, 27) := ⟨⟨by decide +kernel, by decide +kernel⟩, List.mem_of_getElem? (i := 706) (by decide +kernel), List.mem_of_getElem? (i := 885) (by decide +kernel), List.mem_of_getElem? (i := 886) (by decide +kernel)⟩
theorem lw_p34 : lw_okq (⟨"LazyTesterModel", "put", "(III)I"⟩, 27) := ⟨⟨by decide +kernel, by decide +kernel⟩, List.mem_of_getElem? (i := 706) (by decide +kernel), List.mem_of_getElem? (i := 900) (by decide +kernel), List.mem_of_getElem? (i := 901) (by decide +kernel)⟩
theorem lw_p35 : lw_okq (⟨"LazyTesterModel", "evaluate", "()I"⟩, 27) := ⟨⟨by decide +kernel, by decide +kernel⟩, List.mem_of_getElem? (i := 706) (by decide +kernel), List.mem_of_getElem? (i := 921) (by decide +kernel), List.mem_of_getElem? (i := 922) (by decide +kernel)⟩
theorem lw_p36 : lw_okq (⟨"LazyTesterModel", "evaluateTest", "(II)I"⟩, 27) := ⟨⟨by decide +kernel, by decide +kernel⟩, List.mem_of_getElem? (i := 706) (by decide +kernel), List.mem_of_getElem? (i := 925) (by decide +kernel), List.mem_of_getElem? (i := 926) (by decide +kernel)⟩
theorem lw_p37 : lw_okq (⟨"LazyTesterModel", "go", "(I)I"⟩, 27) := ⟨⟨by decide +kernel, by decide +kernel⟩, List.mem_of_getElem? (i := 706) (by decide +kernel), List.mem_of_getElem? (i := 929) (by decide +kernel), List.mem_of_getElem? (i := 930) (by decide +kernel)⟩
theorem lw_p38 : lw_okq (⟨"LazyTesterModel", "evaluateSame", "(II)I"⟩, 27) := ⟨⟨by decide +kernel, by decide +kernel⟩, List.mem_of_getElem? (i := 706) (by decide +kernel), List.mem_of_getElem? (i := 936) (by decide +kernel), List.mem_of_getElem? (i := 937) (by decide +kernel)⟩
theorem lw_p39 : lw_okq (⟨"LazyTesterModel", "turn", "()I"⟩, 27) := ⟨⟨by decide +kernel, by decide +kernel⟩, List.mem_of_getElem? (i := 706) (by decide +kernel), List.mem_of_getElem? (i := 944) (by decide +kernel), List.mem_of_getElem? (i := 945) (by decide +kernel)⟩
theorem lw_p40 : lw_okq (⟨"LazyTesterModel", "standsFor", "()J"⟩, 27) := ⟨⟨by decide +kernel, by decide +kernel⟩, List.mem_of_getElem? (i := 706) (by decide +kernel), List.mem_of_getElem? (i := 948) (by decide +kernel), List.mem_of_getElem? (i := 949) (by decide +kernel)⟩
theorem lw_p41 : lw_okq (⟨"LazyTesterModel", "goOn", "()Z"⟩, 27) := ⟨⟨by decide +kernel, by decide +kernel⟩, List.mem_of_getElem? (i := 706) (by decide +kernel), List.mem_of_getElem? (i := 952) (by decide +kernel), List.mem_of_getElem? (i := 953) (by decide +kernel)⟩
theorem lw_p42 : lw_okq (⟨"LazyTesterModel", "fillNext", "()Z"⟩, 27) := ⟨⟨by decide +kernel, by decide +kernel⟩, List.mem_of_getElem? (i := 706) (by decide +kernel), List.mem_of_getElem? (i := 956) (by decide +kernel), List.mem_of_getElem? (i := 957) (by decide +kernel)⟩
def lw_privs_3 : List (MethodName × Nat) := [(⟨"LazyTesterModel", "showValue", "()V"⟩, 27), (⟨"LazyTesterModel", "showNext", "(IIJ)V"⟩, 27), (⟨"LazyTesterModel", "put", "(III)I"⟩, 27), (⟨"LazyTesterModel", "evaluate", "()I"⟩, 27), (⟨"LazyTesterModel", "evaluateTest", "(II)I"⟩, 27), (⟨"LazyTesterModel", "go", "(I)I"⟩, 27), (⟨"LazyTesterModel", "evaluateSame", "(II)I"⟩, 27), (⟨"LazyTesterModel", "turn", "()I"⟩, 27), (⟨"LazyTesterModel", "standsFor", "()J"⟩, 27), (⟨"LazyTesterModel", "goOn", "()Z"⟩, 27), (⟨"LazyTesterModel", "fillNext", "()Z"⟩, 27)]
theorem lw_r3 : ∀ q ∈ lw_privs_3, lw_okq q := List.forall_mem_cons.mpr ⟨lw_p32, List.forall_mem_cons.mpr ⟨lw_p33, List.forall_mem_cons.mpr ⟨lw_p34, List.forall_mem_cons.mpr ⟨lw_p35, List.forall_mem_cons.mpr ⟨lw_p36, List.forall_mem_cons.mpr ⟨lw_p37, List.forall_mem_cons.mpr ⟨lw_p38, List.forall_mem_cons.mpr ⟨lw_p39, List.forall_mem_cons.mpr ⟨lw_p40, List.forall_mem_cons.mpr ⟨lw_p41, List.forall_mem_cons.mpr ⟨lw_p42, fun _ h => absurd h List.not_mem_nil⟩⟩⟩⟩⟩⟩⟩⟩⟩⟩⟩
def lw_privs : List (MethodName × Nat) := lw_privs_1 ++ (lw_privs_2 ++ (lw_privs_3))
def lw_tbl : List Cond := k2_sels lw_privs ++ tables_1
theorem lw_privs_ok : ∀ q ∈ lw_privs, lw_okq q := by
  show ∀ q ∈ lw_privs_1 ++ (lw_privs_2 ++ (lw_privs_3)), lw_okq q
  exact List.forall_mem_append.mpr ⟨lw_r1, List.forall_mem_append.mpr ⟨lw_r2, lw_r3⟩⟩
end
section
/-! ===== the claim's methods and classes by number ===== -/
def mm_tab_0 : List (MethodName × ByteArray × Nat × Option FieldType × List (Nat × Nat × Nat × Nat)) := [
  (⟨"LazyTester", "<init>", "()V"⟩, prog_1_method_1_code, 1, (Option.none : Option Jvm.ClassFile.FieldType), []),
  (⟨"LazyTester$Types", "<init>", "()V"⟩, prog_10_method_1_code, 1, (Option.none : Option Jvm.ClassFile.FieldType), []),
  (⟨"LazyTester$DepthTable", "<init>", "(LLazyTester$Types;)V"⟩, prog_2_method_1_code, 2, (Option.none : Option Jvm.ClassFile.FieldType), []),
  (⟨"LazyTester$SizeTable", "<init>", "(LLazyTester$Types;)V"⟩, prog_8_method_1_code, 2, (Option.none : Option Jvm.ClassFile.FieldType), []),
  (⟨"LazyTester$Row", "<init>", "()V"⟩, prog_7_method_1_code, 1, (Option.none : Option Jvm.ClassFile.FieldType), []),
  (⟨"LazyTester$Value", "<init>", "(LLazyTester$Types;LLazyTester$DepthTable;)V"⟩, prog_11_method_1_code, 3, (Option.none : Option Jvm.ClassFile.FieldType), []),
  (⟨"LazyTester$SizedValues", "<init>", "(LLazyTester$Types;LLazyTester$SizeTable;LLazyTester$Row;)V"⟩, prog_9_method_1_code, 4, (Option.none : Option Jvm.ClassFile.FieldType), []),
  (⟨"LazyTester$Pile", "<init>", "()V"⟩, prog_5_method_1_code, 1, (Option.none : Option Jvm.ClassFile.FieldType), []),
  (⟨"LazyTester$Refining", "<init>", "(LLazyTester$Value;LLazyTester$Pile;)V"⟩, prog_6_method_1_code, 3, (Option.none : Option Jvm.ClassFile.FieldType), []),
  (⟨"LazyTester", "shown", "(I)I"⟩, prog_1_method_7_code, 2, (Option.some Jvm.ClassFile.FieldType.int), []),
  (⟨"LazyTester$Row", "at", "(I)I"⟩, prog_7_method_5_code, 2, (Option.some Jvm.ClassFile.FieldType.int), []),
  (⟨"LazyTester", "discard", "()V"⟩, prog_1_method_11_code, 1, (Option.none : Option Jvm.ClassFile.FieldType), []),
  (⟨"LazyTester$Pile", "clear", "()V"⟩, prog_5_method_5_code, 1, (Option.none : Option Jvm.ClassFile.FieldType), []),
  (⟨"LazyTester", "evaluated", "()I"⟩, prog_1_method_14_code, 1, (Option.some Jvm.ClassFile.FieldType.int), []),
  (⟨"LazyTester", "passed", "()J"⟩, prog_1_method_15_code, 1, (Option.some Jvm.ClassFile.FieldType.long), []),
  (⟨"LazyTesterLaw", "constructor", "(LLazyTester;IIIII[J)I"⟩, method_3_code, 8, (Option.some Jvm.ClassFile.FieldType.int), [((0 : Nat), (16 : Nat), (19 : Nat), (13 : Nat)), ((0 : Nat), (16 : Nat), (23 : Nat), (15 : Nat)), ((0 : Nat), (16 : Nat), (27 : Nat), (17 : Nat))]),
  (⟨"LazyTester", "constructor", "(IIIII)I"⟩, prog_1_method_2_code, 7, (Option.some Jvm.ClassFile.FieldType.int), []),
  (⟨"LazyTester", "requireType", "(I)V"⟩, prog_1_method_17_code, 1, (Option.none : Option Jvm.ClassFile.FieldType), []),
  (⟨"LazyTester", "requireFieldTypes", "(IIII)V"⟩, prog_1_method_18_code, 4, (Option.none : Option Jvm.ClassFile.FieldType), []),
  (⟨"LazyTester$Types", "constructors", "(I)I"⟩, prog_10_method_4_code, 2, (Option.some Jvm.ClassFile.FieldType.int), []),
  (⟨"LazyTester$Types", "add", "(IIIII)I"⟩, prog_10_method_3_code, 8, (Option.some Jvm.ClassFile.FieldType.int), []),
  (⟨"LazyTester$Types", "form", "(II)I"⟩, prog_10_method_2_code, 2, (Option.some Jvm.ClassFile.FieldType.int), []),
  (⟨"LazyTester$DepthTable", "fill", "()V"⟩, prog_2_method_2_code, 3, (Option.none : Option Jvm.ClassFile.FieldType), []),
  (⟨"LazyTester$DepthTable", "fillType", "(II)V"⟩, prog_2_method_3_code, 9, (Option.none : Option Jvm.ClassFile.FieldType), []),
  (⟨"LazyTester$Types", "fields", "(I)I"⟩, prog_10_method_5_code, 2, (Option.some Jvm.ClassFile.FieldType.int), []),
  (⟨"LazyTester$DepthTable", "fieldValues", "(III)J"⟩, prog_2_method_6_code, 7, (Option.some Jvm.ClassFile.FieldType.long), []),
  (⟨"LazyTester$Types", "fieldType", "(II)I"⟩, prog_10_method_6_code, 3, (Option.some Jvm.ClassFile.FieldType.int), []),
  (⟨"LazyTester$DepthTable", "values", "(II)J"⟩, prog_2_method_4_code, 3, (Option.some Jvm.ClassFile.FieldType.long), []),
  (⟨"LazyTester", "cappedProduct", "(JJ)J"⟩, prog_1_method_26_code, 4, (Option.some Jvm.ClassFile.FieldType.long), []),
  (⟨"LazyTester", "cappedSum", "(JJ)J"⟩, prog_1_method_25_code, 4, (Option.some Jvm.ClassFile.FieldType.long), [])]
def mm_tab_1 : List (MethodName × ByteArray × Nat × Option FieldType × List (Nat × Nat × Nat × Nat)) := [
  (⟨"LazyTester$SizeTable", "fill", "()V"⟩, prog_8_method_2_code, 3, (Option.none : Option Jvm.ClassFile.FieldType), []),
  (⟨"LazyTester$SizeTable", "fillType", "(II)V"⟩, prog_8_method_3_code, 8, (Option.none : Option Jvm.ClassFile.FieldType), []),
  (⟨"LazyTester$SizeTable", "waysToShare", "(III)J"⟩, prog_8_method_4_code, 7, (Option.some Jvm.ClassFile.FieldType.long), []),
  (⟨"LazyTester$SizeTable", "values", "(II)J"⟩, prog_8_method_5_code, 3, (Option.some Jvm.ClassFile.FieldType.long), []),
  (⟨"LazyTester$SizeTable", "fieldValues", "(III)J"⟩, prog_8_method_6_code, 4, (Option.some Jvm.ClassFile.FieldType.long), []),
  (⟨"LazyTesterLaw", "count", "(LLazyTester;II[J)I"⟩, method_4_code, 5, (Option.some Jvm.ClassFile.FieldType.int), [((0 : Nat), (9 : Nat), (12 : Nat), (13 : Nat)), ((0 : Nat), (9 : Nat), (16 : Nat), (15 : Nat))]),
  (⟨"LazyTester", "count", "(II)J"⟩, prog_1_method_3_code, 3, (Option.some Jvm.ClassFile.FieldType.long), []),
  (⟨"LazyTester", "requireDepth", "(I)V"⟩, prog_1_method_19_code, 1, (Option.none : Option Jvm.ClassFile.FieldType), []),
  (⟨"LazyTesterLaw", "show", "(LLazyTester;IIJ[J)I"⟩, method_5_code, 7, (Option.some Jvm.ClassFile.FieldType.int), [((0 : Nat), (12 : Nat), (15 : Nat), (13 : Nat)), ((0 : Nat), (12 : Nat), (19 : Nat), (15 : Nat)), ((0 : Nat), (12 : Nat), (23 : Nat), (17 : Nat))]),
  (⟨"LazyTester", "show", "(IIJ)I"⟩, prog_1_method_4_code, 5, (Option.some Jvm.ClassFile.FieldType.int), []),
  (⟨"LazyTester", "requireNumber", "(JJ)V"⟩, prog_1_method_21_code, 4, (Option.none : Option Jvm.ClassFile.FieldType), []),
  (⟨"LazyTester$Value", "become", "(IIJ)V"⟩, prog_11_method_3_code, 5, (Option.none : Option Jvm.ClassFile.FieldType), []),
  (⟨"LazyTester$Value", "fillIn", "(IIJ)V"⟩, prog_11_method_5_code, 13, (Option.none : Option Jvm.ClassFile.FieldType), []),
  (⟨"LazyTester$DepthTable", "formValues", "(II)J"⟩, prog_2_method_5_code, 3, (Option.some Jvm.ClassFile.FieldType.long), []),
  (⟨"LazyTester$Value", "place", "(II)V"⟩, prog_11_method_6_code, 6, (Option.none : Option Jvm.ClassFile.FieldType), []),
  (⟨"LazyTester$Paths", "toField", "(II)I"⟩, prog_4_method_3_code, 2, (Option.some Jvm.ClassFile.FieldType.int), []),
  (⟨"LazyTester$Value", "leaveOpen", "(I)V"⟩, prog_11_method_4_code, 2, (Option.none : Option Jvm.ClassFile.FieldType), []),
  (⟨"LazyTester$Value", "writeTo", "(LLazyTester$Row;)V"⟩, prog_11_method_10_code, 2, (Option.none : Option Jvm.ClassFile.FieldType), []),
  (⟨"LazyTester$Row", "clear", "()V"⟩, prog_7_method_2_code, 1, (Option.none : Option Jvm.ClassFile.FieldType), []),
  (⟨"LazyTester$Value", "writePart", "(LLazyTester$Row;II)V"⟩, prog_11_method_11_code, 5, (Option.none : Option Jvm.ClassFile.FieldType), []),
  (⟨"LazyTester$Row", "add", "(I)V"⟩, prog_7_method_3_code, 2, (Option.none : Option Jvm.ClassFile.FieldType), []),
  (⟨"LazyTester$Row", "length", "()I"⟩, prog_7_method_4_code, 1, (Option.some Jvm.ClassFile.FieldType.int), []),
  (⟨"LazyTesterLaw", "sized", "(LLazyTester;II[J)I"⟩, method_6_code, 5, (Option.some Jvm.ClassFile.FieldType.int), [((0 : Nat), (9 : Nat), (12 : Nat), (13 : Nat)), ((0 : Nat), (9 : Nat), (16 : Nat), (15 : Nat))]),
  (⟨"LazyTester", "sized", "(II)J"⟩, prog_1_method_5_code, 3, (Option.some Jvm.ClassFile.FieldType.long), []),
  (⟨"LazyTester", "requireSize", "(I)V"⟩, prog_1_method_20_code, 1, (Option.none : Option Jvm.ClassFile.FieldType), []),
  (⟨"LazyTesterLaw", "showSized", "(LLazyTester;IIJ[J)I"⟩, method_7_code, 7, (Option.some Jvm.ClassFile.FieldType.int), [((0 : Nat), (12 : Nat), (15 : Nat), (13 : Nat)), ((0 : Nat), (12 : Nat), (19 : Nat), (15 : Nat)), ((0 : Nat), (12 : Nat), (23 : Nat), (17 : Nat))]),
  (⟨"LazyTester", "showSized", "(IIJ)I"⟩, prog_1_method_6_code, 5, (Option.some Jvm.ClassFile.FieldType.int), []),
  (⟨"LazyTester$SizedValues", "write", "(IIJ)V"⟩, prog_9_method_2_code, 5, (Option.none : Option Jvm.ClassFile.FieldType), []),
  (⟨"LazyTester$SizedValues", "writePart", "(IIJ)V"⟩, prog_9_method_3_code, 8, (Option.none : Option Jvm.ClassFile.FieldType), []),
  (⟨"LazyTester$SizedValues", "writeFields", "(IIJ)V"⟩, prog_9_method_4_code, 10, (Option.none : Option Jvm.ClassFile.FieldType), [])]
def mm_tab_2 : List (MethodName × ByteArray × Nat × Option FieldType × List (Nat × Nat × Nat × Nat)) := [
  (⟨"LazyTester$SizedValues", "share", "(IIJ)J"⟩, prog_9_method_5_code, 15, (Option.some Jvm.ClassFile.FieldType.long), []),
  (⟨"LazyTester$SizedValues", "waysWithPart", "(IIII)J"⟩, prog_9_method_6_code, 5, (Option.some Jvm.ClassFile.FieldType.long), []),
  (⟨"LazyTester$SizedValues", "waysAfter", "(III)J"⟩, prog_9_method_7_code, 7, (Option.some Jvm.ClassFile.FieldType.long), []),
  (⟨"LazyTesterLaw", "test", "(LLazyTester;II[J)I"⟩, method_8_code, 5, (Option.some Jvm.ClassFile.FieldType.int), [((0 : Nat), (10 : Nat), (13 : Nat), (15 : Nat)), ((0 : Nat), (10 : Nat), (17 : Nat), (17 : Nat))]),
  (⟨"LazyTester", "test", "(II)I"⟩, prog_1_method_8_code, 3, (Option.some Jvm.ClassFile.FieldType.int), []),
  (⟨"LazyTester", "requirePath", "(I)V"⟩, prog_1_method_22_code, 1, (Option.none : Option Jvm.ClassFile.FieldType), []),
  (⟨"LazyTester$Paths", "isPath", "(I)Z"⟩, prog_4_method_2_code, 2, (Option.some Jvm.ClassFile.FieldType.boolean), []),
  (⟨"LazyTester", "requireRoomOnPile", "()V"⟩, prog_1_method_23_code, 1, (Option.none : Option Jvm.ClassFile.FieldType), []),
  (⟨"LazyTester$Pile", "made", "()I"⟩, prog_5_method_3_code, 1, (Option.some Jvm.ClassFile.FieldType.int), []),
  (⟨"LazyTester$Pile", "put", "(III)I"⟩, prog_5_method_6_code, 4, (Option.some Jvm.ClassFile.FieldType.int), []),
  (⟨"LazyTesterLaw", "same", "(LLazyTester;II[J)I"⟩, method_9_code, 5, (Option.some Jvm.ClassFile.FieldType.int), [((0 : Nat), (10 : Nat), (13 : Nat), (15 : Nat)), ((0 : Nat), (10 : Nat), (17 : Nat), (17 : Nat))]),
  (⟨"LazyTester", "same", "(II)I"⟩, prog_1_method_9_code, 3, (Option.some Jvm.ClassFile.FieldType.int), []),
  (⟨"LazyTesterLaw", "combine", "(LLazyTester;I[J)I"⟩, method_10_code, 4, (Option.some Jvm.ClassFile.FieldType.int), [((0 : Nat), (9 : Nat), (12 : Nat), (15 : Nat)), ((0 : Nat), (9 : Nat), (15 : Nat), (17 : Nat))]),
  (⟨"LazyTester", "combine", "(I)I"⟩, prog_1_method_10_code, 2, (Option.some Jvm.ClassFile.FieldType.int), []),
  (⟨"LazyTester$Pile", "height", "()I"⟩, prog_5_method_4_code, 1, (Option.some Jvm.ClassFile.FieldType.int), []),
  (⟨"LazyTester$Pile", "operands", "(I)I"⟩, prog_5_method_2_code, 1, (Option.some Jvm.ClassFile.FieldType.int), []),
  (⟨"LazyTester$Pile", "join", "(I)I"⟩, prog_5_method_7_code, 4, (Option.some Jvm.ClassFile.FieldType.int), []),
  (⟨"LazyTesterLaw", "check", "(LLazyTester;II[J)I"⟩, method_11_code, 5, (Option.some Jvm.ClassFile.FieldType.int), [((0 : Nat), (10 : Nat), (13 : Nat), (13 : Nat)), ((0 : Nat), (10 : Nat), (17 : Nat), (15 : Nat)), ((0 : Nat), (10 : Nat), (21 : Nat), (17 : Nat))]),
  (⟨"LazyTester", "check", "(II)I"⟩, prog_1_method_12_code, 6, (Option.some Jvm.ClassFile.FieldType.int), []),
  (⟨"LazyTester", "requireProperty", "()V"⟩, prog_1_method_24_code, 1, (Option.none : Option Jvm.ClassFile.FieldType), []),
  (⟨"LazyTester", "firstFalse", "(III)I"⟩, prog_1_method_16_code, 5, (Option.some Jvm.ClassFile.FieldType.int), []),
  (⟨"LazyTester$Pile", "evaluateTopmost", "(LLazyTester$Value;)I"⟩, prog_5_method_8_code, 2, (Option.some Jvm.ClassFile.FieldType.int), []),
  (⟨"LazyTester$Pile", "evaluate", "(ILLazyTester$Value;)I"⟩, prog_5_method_9_code, 7, (Option.some Jvm.ClassFile.FieldType.int), []),
  (⟨"LazyTester$Value", "hasConstructor", "(II)I"⟩, prog_11_method_12_code, 4, (Option.some Jvm.ClassFile.FieldType.int), []),
  (⟨"LazyTester$Value", "goAlong", "(I)I"⟩, prog_11_method_15_code, 5, (Option.some Jvm.ClassFile.FieldType.int), []),
  (⟨"LazyTester$Paths", "steps", "(I)I"⟩, prog_4_method_4_code, 3, (Option.some Jvm.ClassFile.FieldType.int), []),
  (⟨"LazyTester$Value", "isAlike", "(II)I"⟩, prog_11_method_13_code, 5, (Option.some Jvm.ClassFile.FieldType.int), []),
  (⟨"LazyTester$Value", "compare", "(III)I"⟩, prog_11_method_14_code, 6, (Option.some Jvm.ClassFile.FieldType.int), []),
  (⟨"LazyTester$Pile", "negate", "(I)I"⟩, prog_5_method_10_code, 1, (Option.some Jvm.ClassFile.FieldType.int), []),
  (⟨"LazyTesterLaw", "refine", "(LLazyTester;II[J)I"⟩, method_12_code, 5, (Option.some Jvm.ClassFile.FieldType.int), [((0 : Nat), (17 : Nat), (20 : Nat), (13 : Nat)), ((0 : Nat), (17 : Nat), (24 : Nat), (15 : Nat)), ((0 : Nat), (17 : Nat), (28 : Nat), (17 : Nat))])]
def mm_tab_3 : List (MethodName × ByteArray × Nat × Option FieldType × List (Nat × Nat × Nat × Nat)) := [
  (⟨"LazyTester", "refine", "(II)Z"⟩, prog_1_method_13_code, 4, (Option.some Jvm.ClassFile.FieldType.boolean), []),
  (⟨"LazyTester$Refining", "run", "(II)LLazyTester$Outcome;"⟩, prog_6_method_4_code, 5, (Option.some (Jvm.ClassFile.FieldType.object "LazyTester$Outcome")), []),
  (⟨"LazyTester$Value", "becomeHole", "(I)V"⟩, prog_11_method_2_code, 2, (Option.none : Option Jvm.ClassFile.FieldType), []),
  (⟨"LazyTester$Value", "standsFor", "(I)J"⟩, prog_11_method_8_code, 2, (Option.some Jvm.ClassFile.FieldType.long), []),
  (⟨"LazyTester$Value", "waysToFill", "(II)J"⟩, prog_11_method_9_code, 6, (Option.some Jvm.ClassFile.FieldType.long), []),
  (⟨"LazyTester$Refining", "advance", "(I)Z"⟩, prog_6_method_5_code, 2, (Option.some Jvm.ClassFile.FieldType.boolean), []),
  (⟨"LazyTester$Value", "advance", "(II)Z"⟩, prog_11_method_7_code, 7, (Option.some Jvm.ClassFile.FieldType.boolean), []),
  (⟨"LazyTester$Refining", "evaluations", "()I"⟩, prog_6_method_2_code, 1, (Option.some Jvm.ClassFile.FieldType.int), []),
  (⟨"LazyTester$Refining", "passes", "()J"⟩, prog_6_method_3_code, 1, (Option.some Jvm.ClassFile.FieldType.long), []),
  (⟨"LazyTesterModel", "<init>", "()V"⟩, prog_13_method_1_code, 1, (Option.none : Option Jvm.ClassFile.FieldType), []),
  (⟨"LazyTesterModel", "thrown", "()I"⟩, prog_13_method_2_code, 1, (Option.some Jvm.ClassFile.FieldType.int), []),
  (⟨"LazyTesterModel", "constructor", "(IIIII)I"⟩, prog_13_method_4_code, 8, (Option.some Jvm.ClassFile.FieldType.int), []),
  (⟨"LazyTesterModel", "isType", "(I)Z"⟩, prog_13_method_3_code, 1, (Option.some Jvm.ClassFile.FieldType.boolean), []),
  (⟨"LazyTesterModel", "count", "(II)J"⟩, prog_13_method_16_code, 3, (Option.some Jvm.ClassFile.FieldType.long), []),
  (⟨"LazyTesterModel", "depthBar", "(II)I"⟩, prog_13_method_14_code, 2, (Option.some Jvm.ClassFile.FieldType.int), []),
  (⟨"LazyTesterModel", "findDeep", "()V"⟩, prog_13_method_9_code, 6, (Option.none : Option Jvm.ClassFile.FieldType), []),
  (⟨"LazyTesterModel", "deepWith", "(III)J"⟩, prog_13_method_8_code, 7, (Option.some Jvm.ClassFile.FieldType.long), []),
  (⟨"LazyTesterModel", "fieldType", "(III)I"⟩, prog_13_method_5_code, 4, (Option.some Jvm.ClassFile.FieldType.int), []),
  (⟨"LazyTesterModel", "times", "(JJ)J"⟩, prog_13_method_7_code, 4, (Option.some Jvm.ClassFile.FieldType.long), []),
  (⟨"LazyTesterModel", "plus", "(JJ)J"⟩, prog_13_method_6_code, 4, (Option.some Jvm.ClassFile.FieldType.long), []),
  (⟨"LazyTesterModel", "sized", "(II)J"⟩, prog_13_method_17_code, 3, (Option.some Jvm.ClassFile.FieldType.long), []),
  (⟨"LazyTesterModel", "sizeBar", "(II)I"⟩, prog_13_method_15_code, 2, (Option.some Jvm.ClassFile.FieldType.int), []),
  (⟨"LazyTesterModel", "findSizes", "()V"⟩, prog_13_method_13_code, 6, (Option.none : Option Jvm.ClassFile.FieldType), []),
  (⟨"LazyTesterModel", "sizedWith", "(III)J"⟩, prog_13_method_12_code, 8, (Option.some Jvm.ClassFile.FieldType.long), []),
  (⟨"LazyTesterModel", "sizedBy", "(IIIII)J"⟩, prog_13_method_11_code, 9, (Option.some Jvm.ClassFile.FieldType.long), []),
  (⟨"LazyTesterModel", "ofSize", "(II)J"⟩, prog_13_method_10_code, 3, (Option.some Jvm.ClassFile.FieldType.long), []),
  (⟨"LazyTesterModel", "show", "(IIJ)I"⟩, prog_13_method_24_code, 5, (Option.some Jvm.ClassFile.FieldType.int), []),
  (⟨"LazyTesterModel", "build", "(IIJ)V"⟩, prog_13_method_22_code, 6, (Option.none : Option Jvm.ClassFile.FieldType), []),
  (⟨"LazyTesterModel", "clearValue", "()V"⟩, prog_13_method_19_code, 2, (Option.none : Option Jvm.ClassFile.FieldType), []),
  (⟨"LazyTesterModel", "push", "(IIJ)V"⟩, prog_13_method_18_code, 5, (Option.none : Option Jvm.ClassFile.FieldType), [])]
def mm_tab_4 : List (MethodName × ByteArray × Nat × Option FieldType × List (Nat × Nat × Nat × Nat)) := [
  (⟨"LazyTesterModel", "steps", "(I)I"⟩, prog_13_method_20_code, 3, (Option.some Jvm.ClassFile.FieldType.int), []),
  (⟨"LazyTesterModel", "place", "(IIIJ)V"⟩, prog_13_method_21_code, 12, (Option.none : Option Jvm.ClassFile.FieldType), []),
  (⟨"LazyTesterModel", "showValue", "()V"⟩, prog_13_method_23_code, 4, (Option.none : Option Jvm.ClassFile.FieldType), []),
  (⟨"LazyTesterModel", "showSized", "(IIJ)I"⟩, prog_13_method_26_code, 5, (Option.some Jvm.ClassFile.FieldType.int), []),
  (⟨"LazyTesterModel", "showNext", "(IIJ)V"⟩, prog_13_method_25_code, 14, (Option.none : Option Jvm.ClassFile.FieldType), []),
  (⟨"LazyTesterModel", "shown", "(I)I"⟩, prog_13_method_27_code, 2, (Option.some Jvm.ClassFile.FieldType.int), []),
  (⟨"LazyTesterModel", "test", "(II)I"⟩, prog_13_method_30_code, 3, (Option.some Jvm.ClassFile.FieldType.int), []),
  (⟨"LazyTesterModel", "isPath", "(I)Z"⟩, prog_13_method_29_code, 3, (Option.some Jvm.ClassFile.FieldType.boolean), []),
  (⟨"LazyTesterModel", "put", "(III)I"⟩, prog_13_method_28_code, 4, (Option.some Jvm.ClassFile.FieldType.int), []),
  (⟨"LazyTesterModel", "same", "(II)I"⟩, prog_13_method_31_code, 3, (Option.some Jvm.ClassFile.FieldType.int), []),
  (⟨"LazyTesterModel", "combine", "(I)I"⟩, prog_13_method_32_code, 4, (Option.some Jvm.ClassFile.FieldType.int), []),
  (⟨"LazyTesterModel", "discard", "()V"⟩, prog_13_method_33_code, 1, (Option.none : Option Jvm.ClassFile.FieldType), []),
  (⟨"LazyTesterModel", "check", "(II)I"⟩, prog_13_method_39_code, 6, (Option.some Jvm.ClassFile.FieldType.int), []),
  (⟨"LazyTesterModel", "evaluate", "()I"⟩, prog_13_method_38_code, 5, (Option.some Jvm.ClassFile.FieldType.int), []),
  (⟨"LazyTesterModel", "evaluateTest", "(II)I"⟩, prog_13_method_36_code, 4, (Option.some Jvm.ClassFile.FieldType.int), []),
  (⟨"LazyTesterModel", "go", "(I)I"⟩, prog_13_method_35_code, 6, (Option.some Jvm.ClassFile.FieldType.int), []),
  (⟨"LazyTesterModel", "stepOf", "(II)I"⟩, prog_13_method_34_code, 4, (Option.some Jvm.ClassFile.FieldType.int), []),
  (⟨"LazyTesterModel", "evaluateSame", "(II)I"⟩, prog_13_method_37_code, 9, (Option.some Jvm.ClassFile.FieldType.int), []),
  (⟨"LazyTesterModel", "refine", "(II)Z"⟩, prog_13_method_44_code, 4, (Option.some Jvm.ClassFile.FieldType.boolean), []),
  (⟨"LazyTesterModel", "turn", "()I"⟩, prog_13_method_43_code, 2, (Option.some Jvm.ClassFile.FieldType.int), []),
  (⟨"LazyTesterModel", "standsFor", "()J"⟩, prog_13_method_40_code, 4, (Option.some Jvm.ClassFile.FieldType.long), []),
  (⟨"LazyTesterModel", "goOn", "()Z"⟩, prog_13_method_42_code, 1, (Option.some Jvm.ClassFile.FieldType.boolean), []),
  (⟨"LazyTesterModel", "fillNext", "()Z"⟩, prog_13_method_41_code, 5, (Option.some Jvm.ClassFile.FieldType.boolean), []),
  (⟨"LazyTesterModel", "evaluated", "()I"⟩, prog_13_method_45_code, 1, (Option.some Jvm.ClassFile.FieldType.int), []),
  (⟨"LazyTesterModel", "passed", "()J"⟩, prog_13_method_46_code, 1, (Option.some Jvm.ClassFile.FieldType.long), []),
  (x, code, maxLocals, ret, []),
  (⟨"java/lang/Math", "min", "(JJ)J"⟩, prog_19_method_70_code, 4, (Option.some Jvm.ClassFile.FieldType.long), [])]
def mm_tab : List (MethodName × ByteArray × Nat × Option FieldType × List (Nat × Nat × Nat × Nat)) := mm_tab_0 ++ (mm_tab_1 ++ (mm_tab_2 ++ (mm_tab_3 ++ (mm_tab_4))))
def mm_e (k : Nat) : MethodName × ByteArray × Nat × Option FieldType × List (Nat × Nat × Nat × Nat) := mm_tab.getD k (x, code, 0, none, [])
def mm_yn (k : Nat) : MethodName := (mm_e k).1
def mm_cb (k : Nat) : ByteArray := (mm_e k).2.1
def mm_ml (k : Nat) : Nat := (mm_e k).2.2.1
def mm_rt (k : Nat) : Option FieldType := (mm_e k).2.2.2.1
def mm_ht (k : Nat) : List (Nat × Nat × Nat × Nat) := (mm_e k).2.2.2.2
def mm_oc : String := "LazyTester$Outcome"
def mm_od : String := "LLazyTester$Outcome;"
def mm_on : Nat → String
  | 0 => "HELD"
  | 1 => "REFUTED"
  | _ => "FAILED"
def mm_fd : List (String × List (String × String × Bool)) := [
  ("LazyTester", [("types", "LLazyTester$Types;", true), ("depths", "LLazyTester$DepthTable;", true), ("sizes", "LLazyTester$SizeTable;", true), ("row", "LLazyTester$Row;", true), ("value", "LLazyTester$Value;", true), ("sizedValues", "LLazyTester$SizedValues;", true), ("pile", "LLazyTester$Pile;", true), ("refining", "LLazyTester$Refining;", true), ("latestEvaluated", "I", false), ("latestPassed", "J", false)]),
  ("LazyTester$Types", [("constructors", "[I", true), ("fields", "[I", true), ("fieldTypes", "[I", true)]),
  ("LazyTester$DepthTable", [("types", "LLazyTester$Types;", true), ("ofType", "[J", true), ("ofForm", "[J", true)]),
  ("LazyTester$SizeTable", [("types", "LLazyTester$Types;", true), ("ofType", "[J", true), ("ofFields", "[J", true)]),
  ("LazyTester$Row", [("items", "[I", true), ("length", "I", false)]),
  ("LazyTester$Value", [("types", "LLazyTester$Types;", true), ("depths", "LLazyTester$DepthTable;", true), ("typeAt", "[I", true), ("constructorAt", "[I", true), ("fieldsAt", "[I", true)]),
  ("LazyTester$SizedValues", [("types", "LLazyTester$Types;", true), ("sizes", "LLazyTester$SizeTable;", true), ("row", "LLazyTester$Row;", true), ("parts", "[I", true)]),
  ("LazyTester$Pile", [("kind", "[I", true), ("first", "[I", true), ("second", "[I", true), ("lying", "[I", true), ("made", "I", false), ("height", "I", false)]),
  ("LazyTester$Refining", [("value", "LLazyTester$Value;", true), ("pile", "LLazyTester$Pile;", true), ("asked", "[I", true), ("open", "I", false), ("evaluations", "I", false), ("passes", "J", false)]),
  ("LazyTesterModel", [("thrown", "I", false), ("constructors", "[I", false), ("fields", "[I", false), ("types", "[I", false), ("deep", "[J", false), ("sizes", "[J", false), ("at", "[I", false), ("typed", "[I", false), ("shownCount", "I", false), ("shownAt", "[I", false), ("pending", "I", false), ("one", "[I", false), ("two", "[I", false), ("three", "[J", false), ("made", "I", false), ("kind", "[I", false), ("left", "[I", false), ("right", "[I", false), ("found", "[I", false), ("lying", "I", false), ("pile", "[I", false), ("chosen", "I", false), ("where", "[I", false), ("with", "[I", false), ("most", "I", false), ("evaluated", "I", false), ("passed", "J", false)])]
def mm_T (q : String × List (String × String × Bool)) : u_T := fun j => match q.2[j]? with
  | some f => (q.1, f)
  | none => ("", "", "", false)
def mm_cl : List vw_C := mm_fd.map fun q => (q.1, mm_T q, q.2.length)
def mm_fk (ci : Nat) : List Nat := [[2, 2, 2, 2, 2, 2, 2, 2, 0, 1], [2, 2, 2], [2, 2, 2], [2, 2, 2], [2, 0], [2, 2, 2, 2, 2], [2, 2, 2, 2], [2, 2, 2, 2, 0, 0], [2, 2, 2, 0, 0, 1], [0, 2, 2, 2, 2, 2, 2, 2, 0, 2, 0, 2, 2, 2, 0, 2, 2, 2, 2, 0, 2, 0, 2, 2, 0, 0, 1]].getD ci []
end
section
/-! ===== a small machine: memory in two banks, locals, operand stack; what it says of the real one ===== -/
abbrev mm_M : Type := (Nat → Nat → Int32) × (Nat → Nat → Int64)
/-- what lies at a place: (0, n, _) an int array of n; (1, n, _) a long array of n; (2, c, rs) an object of class c, rs its fields that are references -/
abbrev mm_K : Type := Nat × Nat × List Value
abbrev mm_S : Type := List mm_K × mm_M
/-- how a method ends: it answers, or throws a new object of the class of that name -/
abbrev mm_O : Type := Option Value ⊕ String
def mm_nth : List Value → Nat → Value
  | [], _ => .null
  | v :: _, 0 => v
  | _ :: L, n + 1 => mm_nth L n
def mm_kd : List mm_K → Nat → mm_K
  | [], _ => (9, 0, [])
  | v :: _, 0 => v
  | _ :: L, n + 1 => mm_kd L n
def mm_kill : Value → Value
  | .long _ => .null
  | .double _ => .null
  | v => v
def mm_st1 : Nat → Value → List Value → List Value
  | _, _, [] => []
  | 0, v, _ :: L => v :: L
  | n + 1, v, x :: L => (match n with | 0 => mm_kill x | _ + 1 => x) :: mm_st1 n v L
def mm_kill0 : List Value → List Value
  | [] => []
  | _ :: L => .null :: L
def mm_st2 : Nat → Value → List Value → List Value
  | _, _, [] => []
  | 0, v, _ :: L => v :: mm_kill0 L
  | n + 1, v, x :: L => (match n with | 0 => mm_kill x | _ + 1 => x) :: mm_st2 n v L
def mm_en : List Value → List Value
  | [] => []
  | .long x :: vs => .long x :: .null :: mm_en vs
  | .double x :: vs => .double x :: .null :: mm_en vs
  | v :: vs => v :: mm_en vs
def mm_pad : Nat → List Value → List Value
  | 0, _ => []
  | n + 1, [] => .null :: mm_pad n []
  | n + 1, v :: L => v :: mm_pad n L
def mm_set {α : Type} (f : Nat → Nat → α) (p i : Nat) (x : α) : Nat → Nat → α := fun q j => if q = p then (if j = i then x else f q j) else f q j
def mm_row {α : Type} (f : Nat → Nat → α) (p : Nat) (g : Nat → α) : Nat → Nat → α := fun q j => if q = p then g j else f q j
theorem mm_nth_some {L : List Value} {i : Nat} {v : Value} (h : mm_nth L i = v) (hv : v ≠ .null) : L[i]? = some v := by
  induction L generalizing i with
  | nil => exact absurd h.symm hv
  | cons x L ih =>
    cases i with
    | zero => simpa [mm_nth] using h
    | succ n => simpa using ih (i := n) h
theorem mm_kd_some {L : List mm_K} {i : Nat} {v : mm_K} (h : mm_kd L i = v) (hv : v.1 ≠ 9) : L[i]? = some v := by
  induction L generalizing i with
  | nil => exact absurd (by rw [← h]; rfl) hv
  | cons x L ih =>
    cases i with
    | zero => simpa [mm_kd] using h
    | succ n => simpa using ih (i := n) h
/-! values -/
def mm_V (φ ρ : List Nat) (v w : Value) : Prop := match v with
  | .ref p => ∃ a, ρ[p]? = some a ∧ w = .ref a
  | .retAddr j => ∃ a, φ[j]? = some a ∧ w = .ref a
  | .null => ∃ a, w = .ref a
  | v => w = v
def mm_Vs (φ ρ : List Nat) : List Value → List Value → Prop
  | [], [] => True
  | v :: vs, w :: ws => mm_V φ ρ v w ∧ mm_Vs φ ρ vs ws
  | _, _ => False
theorem mm_V.mono {φ ρ δ : List Nat} {v w : Value} (h : mm_V φ ρ v w) : mm_V φ (ρ ++ δ) v w := by
  cases v <;> try exact h
  obtain ⟨a, h1, h2⟩ := h
  exact ⟨a, by rw [List.getElem?_append_left (List.getElem?_eq_some_iff.mp h1).1]; exact h1, h2⟩
theorem mm_Vs.mono {φ ρ δ : List Nat} : ∀ {vs ws : List Value}, mm_Vs φ ρ vs ws → mm_Vs φ (ρ ++ δ) vs ws
  | [], [], _ => trivial
  | _ :: _, _ :: _, h => ⟨h.1.mono, mm_Vs.mono h.2⟩
theorem mm_V.cat {φ ρ : List Nat} {v w : Value} (h : mm_V φ ρ v w) : w.category = v.category := by
  cases v <;> first | (obtain ⟨a, -, rfl⟩ := h; rfl) | (obtain ⟨a, rfl⟩ := h; rfl) | (cases h; rfl)
theorem mm_Vs.app {φ ρ : List Nat} : ∀ {a b c d : List Value}, mm_Vs φ ρ a b → mm_Vs φ ρ c d → mm_Vs φ ρ (a ++ c) (b ++ d)
  | [], [], _, _, _, h => h
  | _ :: _, _ :: _, _, _, h1, h2 => ⟨h1.1, mm_Vs.app h1.2 h2⟩
theorem mm_Vs.split {φ ρ : List Nat} : ∀ {a c w : List Value}, mm_Vs φ ρ (a ++ c) w → ∃ b d, w = b ++ d ∧ mm_Vs φ ρ a b ∧ mm_Vs φ ρ c d
  | [], _, w, h => ⟨[], w, rfl, trivial, h⟩
  | _ :: _, _, [], h => absurd h (by intro q; exact q)
  | _ :: _, _, x :: w, h => by
    obtain ⟨b, d, e, h1, h2⟩ := mm_Vs.split h.2
    exact ⟨x :: b, d, by rw [e]; rfl, ⟨h.1, h1⟩, h2⟩
theorem mm_Vs.rev {φ ρ : List Nat} : ∀ {a b : List Value}, mm_Vs φ ρ a b → mm_Vs φ ρ a.reverse b.reverse
  | [], [], _ => trivial
  | x :: a, y :: b, h => by
    rw [List.reverse_cons, List.reverse_cons]
    exact (mm_Vs.rev h.2).app ⟨h.1, trivial⟩
theorem mm_Vs.len {φ ρ : List Nat} : ∀ {a b : List Value}, mm_Vs φ ρ a b → b.length = a.length
  | [], [], _ => rfl
  | _ :: _, _ :: _, h => by simp [mm_Vs.len h.2]
theorem mm_Vs.cats {φ ρ : List Nat} : ∀ {a b : List Value}, mm_Vs φ ρ a b → (b.map fun v => v.category).sum = (a.map fun v => v.category).sum
  | [], [], _ => rfl
  | _ :: _, _ :: _, h => by simp [mm_Vs.cats h.2, h.1.cat]
theorem mm_Vs.cons {φ ρ : List Nat} {v : Value} {S st : List Value} (h : mm_Vs φ ρ (v :: S) st) : ∃ w st', st = w :: st' ∧ mm_V φ ρ v w ∧ mm_Vs φ ρ S st' := by
  cases st with
  | nil => exact h.elim
  | cons w st' => exact ⟨w, st', rfl, h.1, h.2⟩
/-! locals -/
def mm_L (φ ρ : List Nat) (L : List Value) (ls : Array Slot) (nL : Nat) : Prop :=
  lv_has ls nL [] ∧ ∀ (i : Nat) (v : Value), L[i]? = some v → v ≠ .null → ∃ w, ls[i]? = some (.val w) ∧ mm_V φ ρ v w
theorem mm_L.mono {φ ρ δ : List Nat} {L : List Value} {ls : Array Slot} {nL : Nat} (h : mm_L φ ρ L ls nL) : mm_L φ (ρ ++ δ) L ls nL :=
  ⟨h.1, fun i v h1 h2 => by obtain ⟨w, e, hw⟩ := h.2 i v h1 h2; exact ⟨w, e, hw.mono⟩⟩
theorem mm_L.at {φ ρ : List Nat} {L : List Value} {ls : Array Slot} {nL i : Nat} {v : Value} (h : mm_L φ ρ L ls nL) (hv : mm_nth L i = v) (hn : v ≠ .null) : ∃ w, ls[i]? = some (.val w) ∧ mm_V φ ρ v w :=
  h.2 i v (mm_nth_some hv hn) hn
def mm_all (ls : Array Slot) : List (Nat × Value) := (List.range ls.size).filterMap fun (i : Nat) => match (ls[i]? : Option Slot) with
  | some (.val w) => some (i, w)
  | _ => none
theorem mm_all_mem {ls : Array Slot} {q : Nat × Value} : q ∈ mm_all ls ↔ ls[q.1]? = some (.val q.2) := by
  constructor
  · intro h
    obtain ⟨i, -, h⟩ := List.mem_filterMap.mp h
    split at h
    next w hw => cases h; exact hw
    next => cases h
  · intro h
    refine List.mem_filterMap.mpr ⟨q.1, List.mem_range.mpr (Array.getElem?_eq_some_iff.mp h).1, ?_⟩
    rw [h]
theorem mm_all_has {ls : Array Slot} {nL : Nat} (h : lv_has ls nL []) : lv_has ls nL (mm_all ls) := ⟨h.1, h.2.1, fun _ hq => mm_all_mem.mp hq⟩
theorem mm_kill_of {x u : Value} (h : mm_kill x = u) (hu : u ≠ .null) : x = u ∧ u.category = 1 := by
  cases x <;> simp only [mm_kill] at h <;> first | exact absurd h.symm hu | (subst h; exact ⟨rfl, rfl⟩)
theorem mm_st1_at : ∀ (L : List Value) (i : Nat) (v : Value) (j : Nat) (u : Value), (mm_st1 i v L)[j]? = some u → u ≠ .null →
    (j = i ∧ u = v) ∨ (j ≠ i ∧ L[j]? = some u ∧ (j + 1 = i → u.category = 1))
  | [], _, _, _, _, h, _ => by simp [mm_st1] at h
  | x :: L, 0, v, j, u, h, _ => by
    cases j with
    | zero => simp [mm_st1] at h; exact Or.inl ⟨rfl, h.symm⟩
    | succ j => simp [mm_st1] at h; exact Or.inr ⟨by omega, by simpa using h, by omega⟩
  | x :: L, n + 1, v, j, u, h, hu => by
    cases j with
    | zero =>
      cases n with
      | zero =>
        simp only [mm_st1, List.getElem?_cons_zero, Option.some.injEq] at h
        obtain ⟨h1, h2⟩ := mm_kill_of h hu
        exact Or.inr ⟨by omega, by simp [h1], fun _ => h2⟩
      | succ n =>
        simp only [mm_st1, List.getElem?_cons_zero, Option.some.injEq] at h
        exact Or.inr ⟨by omega, by simp [h], by omega⟩
    | succ j =>
      have h' : (mm_st1 n v L)[j]? = some u := by simpa [mm_st1] using h
      rcases mm_st1_at L n v j u h' hu with ⟨h1, h2⟩ | ⟨h1, h2, h3⟩
      · exact Or.inl ⟨by omega, h2⟩
      · exact Or.inr ⟨by omega, by simpa using h2, fun q => h3 (by omega)⟩
theorem mm_st2_at : ∀ (L : List Value) (i : Nat) (v : Value) (j : Nat) (u : Value), (mm_st2 i v L)[j]? = some u → u ≠ .null →
    (j = i ∧ u = v) ∨ (j ≠ i ∧ j ≠ i + 1 ∧ L[j]? = some u ∧ (j + 1 = i → u.category = 1))
  | [], _, _, _, _, h, _ => by simp [mm_st2] at h
  | x :: L, 0, v, j, u, h, hu => by
    cases j with
    | zero => simp [mm_st2] at h; exact Or.inl ⟨rfl, h.symm⟩
    | succ j =>
      have h' : (mm_kill0 L)[j]? = some u := by simpa [mm_st2] using h
      cases L with
      | nil => simp [mm_kill0] at h'
      | cons y L =>
        cases j with
        | zero => simp [mm_kill0] at h'; exact absurd h'.symm hu
        | succ j => exact Or.inr ⟨by omega, by omega, by simpa [mm_kill0] using h', by omega⟩
  | x :: L, n + 1, v, j, u, h, hu => by
    cases j with
    | zero =>
      cases n with
      | zero =>
        simp only [mm_st2, List.getElem?_cons_zero, Option.some.injEq] at h
        obtain ⟨h1, h2⟩ := mm_kill_of h hu
        exact Or.inr ⟨by omega, by omega, by simp [h1], fun _ => h2⟩
      | succ n =>
        simp only [mm_st2, List.getElem?_cons_zero, Option.some.injEq] at h
        exact Or.inr ⟨by omega, by omega, by simp [h], by omega⟩
    | succ j =>
      have h' : (mm_st2 n v L)[j]? = some u := by simpa [mm_st2] using h
      rcases mm_st2_at L n v j u h' hu with ⟨h1, h2⟩ | ⟨h1, h2, h3, h4⟩
      · exact Or.inl ⟨by omega, h2⟩
      · exact Or.inr ⟨by omega, by omega, by simpa using h3, fun q => h4 (by omega)⟩
theorem mm_L.st1 {φ ρ : List Nat} {L : List Value} {ls ls' : Array Slot} {nL i : Nat} {v w : Value} (h : mm_L φ ρ L ls nL) (hv : v ≠ .null → mm_V φ ρ v w)
    (h' : lv_has ls' nL ((i, w) :: (mm_all ls).filter (fun q => !(q.1 == i) && !(q.1 + 1 == i && q.2.category == 2)))) : mm_L φ ρ (mm_st1 i v L) ls' nL := by
  refine ⟨⟨h'.1, h'.2.1, fun _ q => by cases q⟩, fun j u hj hu => ?_⟩
  rcases mm_st1_at L i v j u hj hu with ⟨rfl, rfl⟩ | ⟨h1, h2, h3⟩
  · exact ⟨w, h'.2.2 _ List.mem_cons_self, hv hu⟩
  · obtain ⟨w2, e2, hw2⟩ := h.2 j u h2 hu
    refine ⟨w2, h'.2.2 (j, w2) (List.mem_cons_of_mem _ (List.mem_filter.mpr ⟨mm_all_mem.mpr e2, ?_⟩)), hw2⟩
    by_cases hji : j + 1 = i
    · have := h3 hji
      simp [h1, hw2.cat, this]
    · simp [h1, hji]
theorem mm_L.st2 {φ ρ : List Nat} {L : List Value} {ls ls' : Array Slot} {nL i : Nat} {v w : Value} (h : mm_L φ ρ L ls nL) (hv : mm_V φ ρ v w)
    (h' : lv_has ls' nL ((i, w) :: (mm_all ls).filter (fun q => !(q.1 == i) && (!(q.1 == i + 1) && !(q.1 + 1 == i && q.2.category == 2))))) : mm_L φ ρ (mm_st2 i v L) ls' nL := by
  refine ⟨⟨h'.1, h'.2.1, fun _ q => by cases q⟩, fun j u hj hu => ?_⟩
  rcases mm_st2_at L i v j u hj hu with ⟨rfl, rfl⟩ | ⟨h1, h0, h2, h3⟩
  · exact ⟨w, h'.2.2 _ List.mem_cons_self, hv⟩
  · obtain ⟨w2, e2, hw2⟩ := h.2 j u h2 hu
    refine ⟨w2, h'.2.2 (j, w2) (List.mem_cons_of_mem _ (List.mem_filter.mpr ⟨mm_all_mem.mpr e2, ?_⟩)), hw2⟩
    by_cases hji : j + 1 = i
    · have := h3 hji
      simp [h1, h0, hw2.cat, this]
    · simp [h1, h0, hji]
theorem mm_pad_at : ∀ (n : Nat) (L : List Value) (i : Nat) (v : Value), (mm_pad n L)[i]? = some v → v ≠ .null → L[i]? = some v
  | 0, _, _, _, h, _ => by simp [mm_pad] at h
  | n + 1, [], i, v, h, hv => by
    cases i with
    | zero => simp [mm_pad] at h; exact absurd h.symm hv
    | succ i => have := mm_pad_at n [] i v (by simpa [mm_pad] using h) hv; simp at this
  | n + 1, x :: L, i, v, h, hv => by
    cases i with
    | zero => simpa [mm_pad] using h
    | succ i => simpa using mm_pad_at n L i v (by simpa [mm_pad] using h) hv
theorem mm_en_at {φ ρ : List Nat} : ∀ (as avr : List Value) (b i : Nat) (v : Value), mm_Vs φ ρ as avr → (mm_en as)[i]? = some v → v ≠ .null → ∃ w, (b + i, w) ∈ lv_args b avr ∧ mm_V φ ρ v w
  | [], _, _, _, _, _, h, _ => by simp [mm_en] at h
  | x :: as, [], _, _, _, h, _, _ => h.elim
  | x :: as, y :: avr, b, i, v, hs, h, hv => by
    have hc := hs.1.cat
    by_cases h2 : x.category = 2
    · have e : mm_en (x :: as) = x :: .null :: mm_en as := by cases x <;> first | rfl | (simp [Value.category] at h2)
      rw [e] at h
      have hb : lv_args b (y :: avr) = (b, y) :: lv_args (b + 2) avr := by simp [lv_args, hc, h2]
      rw [hb]
      match i, h with
      | 0, h => simp at h; subst h; exact ⟨y, List.mem_cons_self, hs.1⟩
      | 1, h => simp at h; exact absurd h.symm hv
      | i + 2, h =>
        obtain ⟨w, h1, h3⟩ := mm_en_at as avr (b + 2) i v hs.2 (by simpa using h) hv
        exact ⟨w, List.mem_cons_of_mem _ (by rw [show b + (i + 2) = b + 2 + i by omega]; exact h1), h3⟩
    · have e : mm_en (x :: as) = x :: mm_en as := by cases x <;> first | rfl | (simp [Value.category] at h2)
      rw [e] at h
      have hb : lv_args b (y :: avr) = (b, y) :: lv_args (b + 1) avr := by simp [lv_args, hc, h2]
      rw [hb]
      match i, h with
      | 0, h => simp at h; subst h; exact ⟨y, List.mem_cons_self, hs.1⟩
      | i + 1, h =>
        obtain ⟨w, h1, h3⟩ := mm_en_at as avr (b + 1) i v hs.2 (by simpa using h) hv
        exact ⟨w, List.mem_cons_of_mem _ (by rw [show b + (i + 1) = b + 1 + i by omega]; exact h1), h3⟩
theorem mm_entry {φ ρ : List Nat} {as avr : List Value} {n : Nat} (hs : mm_Vs φ ρ as avr) (h : (lg_sl avr).length ≤ n) :
    mm_L φ ρ (mm_pad n (mm_en as)) ((lg_sl avr ++ List.replicate (n - (lg_sl avr).length) Slot.unset).toArray) n := by
  have h0 := lv_entry avr h
  refine ⟨⟨h0.1, h0.2.1, fun _ q => by cases q⟩, fun i v hi hv => ?_⟩
  obtain ⟨w, h1, h2⟩ := mm_en_at as avr 0 i v hs (mm_pad_at _ _ _ _ hi hv) hv
  exact ⟨w, by simpa using h0.2.2 _ h1, h2⟩
theorem mm_sl_len {φ ρ : List Nat} : ∀ {as avr : List Value}, mm_Vs φ ρ as avr → (lg_sl avr).length = (as.map fun v => v.category).sum
  | [], [], _ => rfl
  | x :: as, y :: avr, h => by
    have e : lg_sl (y :: avr) = (if y.category = 2 then [Slot.val y, .second] else [.val y]) ++ lg_sl avr := by simp [lg_sl]
    rw [e, List.length_append, mm_sl_len h.2, List.map_cons, List.sum_cons, ← h.1.cat]
    rcases lv_cat y with hy | hy <;> simp [hy]
end
section
/-! ===== where the small machine's words hold of the real one ===== -/
def mm_gw : Cond → Bool
  | .stringRef .. => true
  | .methodLinkNest .. => true
  | .arrayClass _ => true
  | w => w.onTables && (w.keeps || w.faceAtom)
/-- the words that hold under all warmer tables -/
def mm_tb : List Cond := lw_tbl.filter mm_gw
theorem mm_wm {w : Cond} {args a' : Array Value} {s U : State} (hw : mm_gw w = true) (hW : s.WarmedH U.vm) (h : w.before args s = true) : w.before a' U = true := by
  have key : (w.onTables && (w.keeps || w.faceAtom)) = true → w.before a' U = true := by
    intro hq
    simp only [Bool.and_eq_true, Bool.or_eq_true] at hq
    rcases hq with ⟨h1, h2 | h2⟩
    · exact word_at hW (Or.inl (by simp [h1, h2])) h
    · have h3 : w.before args (s.setVm U.vm) = true := Cond.faceAtom_setVm hW.alike w h2 h
      have h4 := Cond.onTables_vm (A := args) (A' := a') (U := s) (U' := U) U.vm w h1
      rw [State.setVm_self] at h4
      rw [← h4]; exact h3
  cases w <;> first | exact key hw | skip
  case stringRef a b c =>
    have h1 := Cond.stringRef_warmed hW h
    exact h1
  case methodLinkNest a b c d => exact va_Nw.use rfl (va_Nw.warmM hW (va_Nw.of rfl h))
  case arrayClass ty => exact word_at hW (Or.inr ⟨ty, rfl⟩) h
def mm_LS (C n d : String) (A : Nat → Prop) (U : State) (H : Heap) : Prop := ∃ (c : ClassId) (k : Class) (i : Nat) (f : Field) (a : Nat) (cell : Cell), U.vm.findClass C = some c ∧ U.fieldFound? C n d = some (c, k, i, f) ∧ f.isStatic = true ∧ k.statics = some a ∧ H[a]? = some cell ∧ cell.vm.isStatics = true ∧ cell.cls = c ∧ f.slot < cell.slots.size ∧ k.staticTypes[f.slot]? = some f.type ∧ ¬ A a
theorem mm_LS.moved {C n d : String} {A : Nat → Prop} {u U : State} {H : Heap} (hvm : u.vm.Alike U.vm) (h : mm_LS C n d A u H) : mm_LS C n d A U H := by
  obtain ⟨c, k, i, f, a, cell, h0, h1, h2, h3, h4, h5, h6, h7, h8, h9⟩ := h
  obtain ⟨k', hi', he⟩ := State.fieldFound?_setVm hvm h1
  exact ⟨c, k', i, f, a, cell, by rw [hvm.findClass]; exact h0, hi', h2, by rw [he]; exact h3, h4, h5, h6, h7, by rw [he]; exact h8, h9⟩
theorem mm_LS.kept {C n d : String} {A : Nat → Prop} {U : State} {H H1 : Heap} (h : mm_LS C n d A U H) (hq : ∀ a : Nat, a < H.size → ¬ A a → H1[a]? = H[a]?) : mm_LS C n d A U H1 := by
  obtain ⟨c, k, i, f, a, cell, h0, h1, h2, h3, h4, h5, h6, h7, h8, h9⟩ := h
  exact ⟨c, k, i, f, a, cell, h0, h1, h2, h3, by rw [hq a (Array.getElem?_eq_some_iff.mp h4).1 h9]; exact h4, h5, h6, h7, h8, h9⟩
theorem mm_LS.use {C n d : String} {A : Nat → Prop} {U : State} {args : Array Value} (h : mm_LS C n d A U U.heap) : (Cond.laysStatic C n d).before args U = true := by
  obtain ⟨c, k, i, f, a, cell, h0, h1, h2, h3, h4, h5, h6, h7, h8, h9⟩ := h
  simp [Cond.before, Cond.holds, Cond.value, h0, h1, h2, h3, h4, h5, h6, h7, h8]
theorem mm_LS.of {C n d : String} {A : Nat → Prop} {U : State} {args : Array Value} (h : (Cond.laysStatic C n d).before args U = true) (hA : ∀ a : Nat, a < U.heap.size → ¬ A a) : mm_LS C n d A U U.heap := by
  obtain ⟨c, k, i, f, a, cell, h0, h1, h2, h3, h4, h5, h6, h7, h8⟩ := Cond.laysStatic_spec h
  exact ⟨c, k, i, f, a, cell, h0, h1, h2, h3, h4, h5, h6, h7, h8, hA a (Array.getElem?_eq_some_iff.mp h4).1⟩
def mm_F (φ ρ : List Nat) (M : mm_M) (p : Nat) (ks : List Nat) (rs fs : List Value) : Prop :=
  fs.length = ks.length ∧ ∀ (j t : Nat), ks[j]? = some t → ∃ w, fs[j]? = some w ∧ (match t with
    | 0 => w = .int (M.1 p j)
    | 1 => w = .long (M.2 p j)
    | _ => mm_nth rs j ≠ .null → mm_V φ ρ (mm_nth rs j) w)
def mm_C (φ ρ : List Nat) (cI cL : ClassId) (M : mm_M) (p : Nat) : mm_K → va_E → Prop
  | (0, n, _), E => E = .inl (cI, n, .inl (M.1 p))
  | (1, n, _), E => E = .inl (cL, n, .inr (.inl (M.2 p)))
  | (2, ci, rs), E => ∃ fs, E = .inr (ci, fs) ∧ mm_F φ ρ M p (mm_fk ci) rs fs
  | _, _ => False
def mm_W (φ ρ : List Nat) (cI cL : ClassId) (σ : mm_S) (ws : va_W) : Prop :=
  ws.length = σ.1.length ∧ ρ.length = σ.1.length ∧ ∀ (p : Nat) (kd : mm_K), σ.1[p]? = some kd → ∃ a E, ρ[p]? = some a ∧ ws[p]? = some (a, E) ∧ mm_C φ ρ cI cL σ.2 p kd E
def mm_ex : Nat → String
  | 0 => "java/lang/IndexOutOfBoundsException"
  | 1 => "java/lang/IllegalArgumentException"
  | _ => "java/lang/IllegalStateException"
/-- what nobody writes: the script, the constants of the enum, two statics of Throwable -/
def mm_Fz (X : Nat × (Nat → Int32)) (φ : List Nat) (A : Nat → Prop) (U : State) (H : Heap) : Prop :=
  (∃ b, φ[0]? = some b ∧ va_X b X.1 X.2 U H ∧ ¬ A b ∧ b < H.size) ∧
  (∀ j, j < 3 → ∃ a, φ[j + 1]? = some a ∧ va_Z mm_oc (mm_on j) mm_od (.ref a) A U H) ∧
  (∀ i j a, i < 3 → j < 3 → φ[i + 1]? = some a → φ[j + 1]? = some a → i = j) ∧
  va_Zq Bundle.tN "UNASSIGNED_STACK" Bundle.steD A U H ∧ va_Zq Bundle.tN "SUPPRESSED_SENTINEL" Bundle.listD A U H ∧
  (∀ i j, i < 3 → j < 3 → i ≠ j → va_Nc (mm_ex i) (mm_ex j) U) ∧
  mm_LS Bundle.tN "UNASSIGNED_STACK" Bundle.steD A U H ∧ mm_LS Bundle.tN "SUPPRESSED_SENTINEL" Bundle.listD A U H
def mm_Cx (l : Launch) (k d : Nat) (X : Nat × (Nat → Int32)) (φ : List Nat) (p : Program) (e : Env) (R : Room) (s : State) (m : MethodId) (args : Array Value) (meth : Method) (c : Code) (D : va_G) (A : Nat → Prop) (cI cL : ClassId) : Prop :=
  p.tables.exec = Jvm.exec ∧ c.code = mm_cb k ∧ c.maxLocals = mm_ml k ∧ meth.sig.returnType = mm_rt k ∧ meth.locks = false ∧ s.vm.findClass (mm_yn k).cls = some m.cls ∧
  (∀ w ∈ mm_tb, w.before args s = true) ∧ va_K D mm_cl [(cI, .int), (cL, .long)] s ∧ (∀ q, s.heap.size ≤ q → A q) ∧ mm_Fz X φ A s s.heap ∧ d + 10 ≤ R.frames ∧ 100 * d + 300 ≤ R.locals ∧
  meth.name = (mm_yn k).name ∧ c.exceptionTable.toList.map (fun h => (h.startPc, h.endPc, h.handlerPc, h.catchType)) = mm_ht k ∧ ∀ e' : Env, l.admits e' → e'.platform.stackTraces = false
def mm_Vo (φ ρ : List Nat) : Option Value → Option Value → Prop
  | none, none => True
  | some v, some w => mm_V φ ρ v w
  | _, _ => False
def mm_Oc (φ ρ : List Nat) (s : State) (o : mm_O) (ro : Outcome) (t : State) : Prop := match o with
  | .inl v => ∃ vr, ro = .returned vr ∧ mm_Vo φ ρ v vr
  | .inr E => ∃ a ce, ro = .threw a ∧ t.heap[a]? = some ce ∧ ce.vm = .none ∧ s.vm.findClass E = some ce.cls
def mm_Q (φ ρ : List Nat) (D : va_G) (A : Nat → Prop) (cI cL : ClassId) (below : List Frame) (s : State) (nc ns : Nat) (o : mm_O) (σ' : mm_S) : State → Prop := fun t =>
  ∃ (ro : Outcome) (δ : List Nat) (ws' : va_W) (Lc : List Loc), t.status = .running ∧ Ended t below ro ∧ mm_W φ (ρ ++ δ) cI cL σ' ws' ∧ va_P D mm_cl ws' t.heap ∧ va_D A ws' ∧ va_S A s.heap t.heap Lc ∧
    s.WarmedH t.vm ∧ s.sameButNew ({ t with vm := s.vm } : State) Lc nc ns ∧ mm_Oc φ (ρ ++ δ) s o ro t
def mm_Run (l : Launch) (X : Nat × (Nat → Int32)) (k d pc : Nat) (L S : List Value) (σ : mm_S) (mc ms : Nat) (o : mm_O) (σ' : mm_S) : Prop :=
  ∀ ⦃p : Program⦄ ⦃e : Env⦄ ⦃R : Room⦄ ⦃s : State⦄ ⦃m : MethodId⦄ ⦃args : Array Value⦄ ⦃below : List Frame⦄ ⦃meth : Method⦄ ⦃c : Code⦄ ⦃D : va_G⦄ ⦃A : Nat → Prop⦄ ⦃cI cL : ClassId⦄ ⦃φ : List Nat⦄,
    mm_Cx l k d X φ p e R s m args meth c D A cI cL →
    ∀ ⦃H : Heap⦄ ⦃locs : List Loc⦄ ⦃cells slots : Nat⦄ ⦃ρ : List Nat⦄ ⦃ws : va_W⦄ ⦃ls : Array Slot⦄ ⦃st : List Value⦄,
      mm_W φ ρ cI cL σ ws → va_P D mm_cl ws H → va_D A ws → va_S A s.heap H locs → mm_L φ ρ L ls (mm_ml k) → mm_Vs φ ρ S st → cells + mc ≤ R.cells → slots + ms ≤ R.slots →
      W p l e R s m args below meth c H locs cells slots (mm_Q φ ρ D A cI cL below s (cells + mc) (slots + ms) o σ') (F0 m pc ls st)
section MM
variable {l : Launch} {X : Nat × (Nat → Int32)} {k d pc : Nat} {L S : List Value} {σ σ' : mm_S} {mc ms : Nat} {o : mm_O}
theorem mm_simple {pc' : Nat} {L' S' : List Value}
    (h : ∀ {p : Program} {e : Env} {R : Room} {s : State} {m : MethodId} {args : Array Value} {below : List Frame} {meth : Method} {c : Code} {D : va_G} {A : Nat → Prop} {cI cL : ClassId} {φ ρ : List Nat} {H : Heap} {locs : List Loc} {cells slots : Nat} {ls : Array Slot} {st : List Value} {Q : State → Prop},
      mm_Cx l k d X φ p e R s m args meth c D A cI cL → mm_L φ ρ L ls (mm_ml k) → mm_Vs φ ρ S st →
      (∀ ls' st', mm_L φ ρ L' ls' (mm_ml k) → mm_Vs φ ρ S' st' → W p l e R s m args below meth c H locs cells slots Q (F0 m pc' ls' st')) → W p l e R s m args below meth c H locs cells slots Q (F0 m pc ls st))
    (hr : mm_Run l X k d pc' L' S' σ mc ms o σ') : mm_Run l X k d pc L S σ mc ms o σ' := by
  intro p e R s m args below meth c D A cI cL φ hc H locs cells slots ρ ws ls st hW hP hD hS hL hV h1 h2
  exact h hc hL hV fun ls' st' q1 q2 => hr hc hW hP hD hS q1 q2 h1 h2
theorem mm_iconst {n : Int} (hd : decode (mm_cb k) pc = .ok (.iconst n, 1))  (hr : mm_Run l X k d (pc + 1) L (.int (Int32.ofInt n) :: S) σ mc ms o σ') : mm_Run l X k d pc L S σ mc ms o σ' := by
  refine mm_simple (fun hc hL hS kk => ?_) hr
  exact lv_iconst hc.1 hc.2.1 hd rfl (kk _ _ hL ⟨rfl, hS⟩)
theorem mm_bipush {n : Int} (hd : decode (mm_cb k) pc = .ok (.bipush n, 2))  (hr : mm_Run l X k d (pc + 2) L (.int (Int8.ofInt n).toInt32 :: S) σ mc ms o σ') : mm_Run l X k d pc L S σ mc ms o σ' := by
  refine mm_simple (fun hc hL hS kk => ?_) hr
  exact lv_bipush hc.1 hc.2.1 hd rfl (kk _ _ hL ⟨rfl, hS⟩)
theorem mm_sipush {n : Int} (hd : decode (mm_cb k) pc = .ok (.sipush n, 3))  (hr : mm_Run l X k d (pc + 3) L (.int (Int16.ofInt n).toInt32 :: S) σ mc ms o σ') : mm_Run l X k d pc L S σ mc ms o σ' := by
  refine mm_simple (fun hc hL hS kk => ?_) hr
  exact lv_sipush hc.1 hc.2.1 hd rfl (kk _ _ hL ⟨rfl, hS⟩)
theorem mm_lconst {n : Fin 2} (hd : decode (mm_cb k) pc = .ok (.lconst n, 1))  (hr : mm_Run l X k d (pc + 1) L (.long (Int64.ofNat (n : Nat)) :: S) σ mc ms o σ') : mm_Run l X k d pc L S σ mc ms o σ' := by
  refine mm_simple (fun hc hL hS kk => ?_) hr
  exact lv_lconst hc.1 hc.2.1 hd rfl (kk _ _ hL ⟨rfl, hS⟩)
theorem mm_iload_n {i : Fin 4} {x : Int32} (hd : decode (mm_cb k) pc = .ok (.iload_n i, 1)) (hl : mm_nth L (i : Nat) = .int x) (hr : mm_Run l X k d (pc + 1) L (.int x :: S) σ mc ms o σ') : mm_Run l X k d pc L S σ mc ms o σ' := by
  refine mm_simple (fun hc hL hS kk => ?_) hr
  obtain ⟨w, e1, rfl⟩ := hL.at hl (by simp)
  exact lv_iload_n hc.1 hc.2.1 hd rfl e1 (kk _ _ hL ⟨rfl, hS⟩)
theorem mm_iload {i : Nat} {x : Int32} (hd : decode (mm_cb k) pc = .ok (.iload i, 2)) (hl : mm_nth L i = .int x) (hr : mm_Run l X k d (pc + 2) L (.int x :: S) σ mc ms o σ') : mm_Run l X k d pc L S σ mc ms o σ' := by
  refine mm_simple (fun hc hL hS kk => ?_) hr
  obtain ⟨w, e1, rfl⟩ := hL.at hl (by simp)
  exact lv_iload hc.1 hc.2.1 hd e1 (kk _ _ hL ⟨rfl, hS⟩)
theorem mm_lload_n {i : Fin 4} {x : Int64} (hd : decode (mm_cb k) pc = .ok (.lload_n i, 1)) (hl : mm_nth L (i : Nat) = .long x) (hr : mm_Run l X k d (pc + 1) L (.long x :: S) σ mc ms o σ') : mm_Run l X k d pc L S σ mc ms o σ' := by
  refine mm_simple (fun hc hL hS kk => ?_) hr
  obtain ⟨w, e1, rfl⟩ := hL.at hl (by simp)
  exact lv_lload_n hc.1 hc.2.1 hd rfl e1 (kk _ _ hL ⟨rfl, hS⟩)
theorem mm_lload {i : Nat} {x : Int64} (hd : decode (mm_cb k) pc = .ok (.lload i, 2)) (hl : mm_nth L i = .long x) (hr : mm_Run l X k d (pc + 2) L (.long x :: S) σ mc ms o σ') : mm_Run l X k d pc L S σ mc ms o σ' := by
  refine mm_simple (fun hc hL hS kk => ?_) hr
  obtain ⟨w, e1, rfl⟩ := hL.at hl (by simp)
  exact lv_lload hc.1 hc.2.1 hd e1 (kk _ _ hL ⟨rfl, hS⟩)
theorem mm_isref {φ ρ : List Nat} {v w : Value} (h : mm_V φ ρ v w) (hv : (∃ p, v = .ref p) ∨ ∃ j, v = .retAddr j) : ∃ a, w = .ref a := by
  rcases hv with ⟨p, rfl⟩ | ⟨j, rfl⟩ <;> (obtain ⟨a, -, e⟩ := h; exact ⟨a, e⟩)
theorem mm_refne {v : Value} (hv : (∃ p, v = .ref p) ∨ ∃ j, v = .retAddr j) : v ≠ .null := by
  rcases hv with ⟨p, rfl⟩ | ⟨j, rfl⟩ <;> simp
theorem mm_aload_n {i : Fin 4} {v : Value} (hd : decode (mm_cb k) pc = .ok (.aload_n i, 1)) (hl : mm_nth L (i : Nat) = v) (hv : (∃ p, v = .ref p) ∨ ∃ j, v = .retAddr j) (hr : mm_Run l X k d (pc + 1) L (v :: S) σ mc ms o σ') : mm_Run l X k d pc L S σ mc ms o σ' := by
  refine mm_simple (fun hc hL hS kk => ?_) hr
  obtain ⟨w, e1, h1⟩ := hL.at hl (mm_refne hv)
  obtain ⟨a, rfl⟩ := mm_isref h1 hv
  exact lv_aload_n hc.1 hc.2.1 hd rfl e1 (kk _ _ hL ⟨h1, hS⟩)
theorem mm_aload {i : Nat} {v : Value} (hd : decode (mm_cb k) pc = .ok (.aload i, 2)) (hl : mm_nth L i = v) (hv : (∃ p, v = .ref p) ∨ ∃ j, v = .retAddr j) (hr : mm_Run l X k d (pc + 2) L (v :: S) σ mc ms o σ') : mm_Run l X k d pc L S σ mc ms o σ' := by
  refine mm_simple (fun hc hL hS kk => ?_) hr
  obtain ⟨w, e1, h1⟩ := hL.at hl (mm_refne hv)
  obtain ⟨a, rfl⟩ := mm_isref h1 hv
  exact lv_aload hc.1 hc.2.1 hd e1 (kk _ _ hL ⟨h1, hS⟩)
theorem mm_istore_n {i : Fin 4} {x : Int32} (hd : decode (mm_cb k) pc = .ok (.istore_n i, 1)) (hi : (i : Nat) < mm_ml k) (hr : mm_Run l X k d (pc + 1) (mm_st1 (i : Nat) (.int x) L) S σ mc ms o σ') : mm_Run l X k d pc L (.int x :: S) σ mc ms o σ' := by
  refine mm_simple (fun hc hL hS kk => ?_) hr
  obtain ⟨_, st, rfl, rfl, hS1⟩ := hS.cons
  exact lv_istore_n hc.1 hc.2.1 hd rfl (mm_all_has hL.1) hi rfl (fun ls1 h1 => kk _ _ (hL.st1 (fun _ => rfl) h1) hS1)
theorem mm_istore {i : Nat} {x : Int32} (hd : decode (mm_cb k) pc = .ok (.istore i, 2)) (hi : i < mm_ml k) (hr : mm_Run l X k d (pc + 2) (mm_st1 i (.int x) L) S σ mc ms o σ') : mm_Run l X k d pc L (.int x :: S) σ mc ms o σ' := by
  refine mm_simple (fun hc hL hS kk => ?_) hr
  obtain ⟨_, st, rfl, rfl, hS1⟩ := hS.cons
  exact lv_istore hc.1 hc.2.1 hd (mm_all_has hL.1) hi rfl (fun ls1 h1 => kk _ _ (hL.st1 (fun _ => rfl) h1) hS1)
theorem mm_lstore_n {i : Fin 4} {x : Int64} (hd : decode (mm_cb k) pc = .ok (.lstore_n i, 1)) (hi : (i : Nat) + 1 < mm_ml k) (hr : mm_Run l X k d (pc + 1) (mm_st2 (i : Nat) (.long x) L) S σ mc ms o σ') : mm_Run l X k d pc L (.long x :: S) σ mc ms o σ' := by
  refine mm_simple (fun hc hL hS kk => ?_) hr
  obtain ⟨_, st, rfl, rfl, hS1⟩ := hS.cons
  exact lv_lstore_n hc.1 hc.2.1 hd rfl (mm_all_has hL.1) hi rfl (fun ls1 h1 => kk _ _ (hL.st2 rfl h1) hS1)
theorem mm_lstore {i : Nat} {x : Int64} (hd : decode (mm_cb k) pc = .ok (.lstore i, 2)) (hi : i + 1 < mm_ml k) (hr : mm_Run l X k d (pc + 2) (mm_st2 i (.long x) L) S σ mc ms o σ') : mm_Run l X k d pc L (.long x :: S) σ mc ms o σ' := by
  refine mm_simple (fun hc hL hS kk => ?_) hr
  obtain ⟨_, st, rfl, rfl, hS1⟩ := hS.cons
  exact lv_lstore hc.1 hc.2.1 hd (mm_all_has hL.1) hi rfl (fun ls1 h1 => kk _ _ (hL.st2 rfl h1) hS1)
theorem mm_astore_n {i : Fin 4} {v : Value} (hd : decode (mm_cb k) pc = .ok (.astore_n i, 1)) (hv : v = .null ∨ (∃ p, v = .ref p) ∨ ∃ j, v = .retAddr j) (hi : (i : Nat) < mm_ml k) (hr : mm_Run l X k d (pc + 1) (mm_st1 (i : Nat) v L) S σ mc ms o σ') : mm_Run l X k d pc L (v :: S) σ mc ms o σ' := by
  refine mm_simple (fun hc hL hS kk => ?_) hr
  obtain ⟨w, st, rfl, h1, hS1⟩ := hS.cons
  have hw : ∃ a, w = .ref a := by
    rcases hv with rfl | hv
    · exact h1
    · exact mm_isref h1 hv
  obtain ⟨a, rfl⟩ := hw
  exact lv_astore_n hc.1 hc.2.1 hd rfl (mm_all_has hL.1) hi rfl (fun ls1 h2 => kk _ _ (hL.st1 (fun _ => h1) h2) hS1)
theorem mm_astore {i : Nat} {v : Value} (hd : decode (mm_cb k) pc = .ok (.astore i, 2)) (hv : v = .null ∨ (∃ p, v = .ref p) ∨ ∃ j, v = .retAddr j) (hi : i < mm_ml k) (hr : mm_Run l X k d (pc + 2) (mm_st1 i v L) S σ mc ms o σ') : mm_Run l X k d pc L (v :: S) σ mc ms o σ' := by
  refine mm_simple (fun hc hL hS kk => ?_) hr
  obtain ⟨w, st, rfl, h1, hS1⟩ := hS.cons
  have hw : ∃ a, w = .ref a := by
    rcases hv with rfl | hv
    · exact h1
    · exact mm_isref h1 hv
  obtain ⟨a, rfl⟩ := hw
  exact lv_astore hc.1 hc.2.1 hd (mm_all_has hL.1) hi rfl (fun ls1 h2 => kk _ _ (hL.st1 (fun _ => h1) h2) hS1)
theorem mm_iinc {i : Nat} {n : Int} {x : Int32} (hd : decode (mm_cb k) pc = .ok (.iinc i n, 3)) (hl : mm_nth L i = .int x) (hi : i < mm_ml k) (hr : mm_Run l X k d (pc + 3) (mm_st1 i (.int (x + Int32.ofInt n)) L) S σ mc ms o σ') : mm_Run l X k d pc L S σ mc ms o σ' := by
  refine mm_simple (fun hc hL hS kk => ?_) hr
  obtain ⟨w, e1, rfl⟩ := hL.at hl (by simp)
  obtain ⟨kk0, hk0⟩ := List.getElem?_of_mem (mm_all_mem.mpr e1 : (i, Value.int x) ∈ mm_all _)
  exact lv_iinc hc.1 hc.2.1 hd (mm_all_has hL.1) hk0 rfl hi rfl (fun ls1 h1 => kk _ _ (hL.st1 (fun _ => rfl) h1) hS)
theorem mm_iadd {x y : Int32} (hd : decode (mm_cb k) pc = .ok (.iadd, 1))  (hr : mm_Run l X k d (pc + 1) L (.int (x + y) :: S) σ mc ms o σ') : mm_Run l X k d pc L (.int y :: .int x :: S) σ mc ms o σ' := by
  refine mm_simple (fun hc hL hS kk => ?_) hr
  obtain ⟨_, st, rfl, rfl, hS1⟩ := hS.cons
  obtain ⟨_, st, rfl, rfl, hS2⟩ := hS1.cons
  exact lv_iadd hc.1 hc.2.1 hd (kk _ _ hL ⟨rfl, hS2⟩)
theorem mm_isub {x y : Int32} (hd : decode (mm_cb k) pc = .ok (.isub, 1))  (hr : mm_Run l X k d (pc + 1) L (.int (x - y) :: S) σ mc ms o σ') : mm_Run l X k d pc L (.int y :: .int x :: S) σ mc ms o σ' := by
  refine mm_simple (fun hc hL hS kk => ?_) hr
  obtain ⟨_, st, rfl, rfl, hS1⟩ := hS.cons
  obtain ⟨_, st, rfl, rfl, hS2⟩ := hS1.cons
  exact lv_isub hc.1 hc.2.1 hd (kk _ _ hL ⟨rfl, hS2⟩)
theorem mm_imul {x y : Int32} (hd : decode (mm_cb k) pc = .ok (.imul, 1))  (hr : mm_Run l X k d (pc + 1) L (.int (x * y) :: S) σ mc ms o σ') : mm_Run l X k d pc L (.int y :: .int x :: S) σ mc ms o σ' := by
  refine mm_simple (fun hc hL hS kk => ?_) hr
  obtain ⟨_, st, rfl, rfl, hS1⟩ := hS.cons
  obtain ⟨_, st, rfl, rfl, hS2⟩ := hS1.cons
  exact lv_imul hc.1 hc.2.1 hd (kk _ _ hL ⟨rfl, hS2⟩)
theorem mm_iand {x y : Int32} (hd : decode (mm_cb k) pc = .ok (.iand, 1))  (hr : mm_Run l X k d (pc + 1) L (.int (x &&& y) :: S) σ mc ms o σ') : mm_Run l X k d pc L (.int y :: .int x :: S) σ mc ms o σ' := by
  refine mm_simple (fun hc hL hS kk => ?_) hr
  obtain ⟨_, st, rfl, rfl, hS1⟩ := hS.cons
  obtain ⟨_, st, rfl, rfl, hS2⟩ := hS1.cons
  exact lv_iand hc.1 hc.2.1 hd (kk _ _ hL ⟨rfl, hS2⟩)
theorem mm_ior {x y : Int32} (hd : decode (mm_cb k) pc = .ok (.ior, 1))  (hr : mm_Run l X k d (pc + 1) L (.int (x ||| y) :: S) σ mc ms o σ') : mm_Run l X k d pc L (.int y :: .int x :: S) σ mc ms o σ' := by
  refine mm_simple (fun hc hL hS kk => ?_) hr
  obtain ⟨_, st, rfl, rfl, hS1⟩ := hS.cons
  obtain ⟨_, st, rfl, rfl, hS2⟩ := hS1.cons
  exact lv_ior hc.1 hc.2.1 hd (kk _ _ hL ⟨rfl, hS2⟩)
theorem mm_ishl {x y : Int32} (hd : decode (mm_cb k) pc = .ok (.ishl, 1))  (hr : mm_Run l X k d (pc + 1) L (.int (x <<< (y &&& 31)) :: S) σ mc ms o σ') : mm_Run l X k d pc L (.int y :: .int x :: S) σ mc ms o σ' := by
  refine mm_simple (fun hc hL hS kk => ?_) hr
  obtain ⟨_, st, rfl, rfl, hS1⟩ := hS.cons
  obtain ⟨_, st, rfl, rfl, hS2⟩ := hS1.cons
  exact lv_ishl hc.1 hc.2.1 hd (kk _ _ hL ⟨rfl, hS2⟩)
theorem mm_ishr {x y : Int32} (hd : decode (mm_cb k) pc = .ok (.ishr, 1))  (hr : mm_Run l X k d (pc + 1) L (.int (x >>> (y &&& 31)) :: S) σ mc ms o σ') : mm_Run l X k d pc L (.int y :: .int x :: S) σ mc ms o σ' := by
  refine mm_simple (fun hc hL hS kk => ?_) hr
  obtain ⟨_, st, rfl, rfl, hS1⟩ := hS.cons
  obtain ⟨_, st, rfl, rfl, hS2⟩ := hS1.cons
  exact lv_ishr hc.1 hc.2.1 hd (kk _ _ hL ⟨rfl, hS2⟩)
theorem mm_ladd {x y : Int64} (hd : decode (mm_cb k) pc = .ok (.ladd, 1))  (hr : mm_Run l X k d (pc + 1) L (.long (x + y) :: S) σ mc ms o σ') : mm_Run l X k d pc L (.long y :: .long x :: S) σ mc ms o σ' := by
  refine mm_simple (fun hc hL hS kk => ?_) hr
  obtain ⟨_, st, rfl, rfl, hS1⟩ := hS.cons
  obtain ⟨_, st, rfl, rfl, hS2⟩ := hS1.cons
  exact lv_ladd hc.1 hc.2.1 hd (kk _ _ hL ⟨rfl, hS2⟩)
theorem mm_lsub {x y : Int64} (hd : decode (mm_cb k) pc = .ok (.lsub, 1))  (hr : mm_Run l X k d (pc + 1) L (.long (x - y) :: S) σ mc ms o σ') : mm_Run l X k d pc L (.long y :: .long x :: S) σ mc ms o σ' := by
  refine mm_simple (fun hc hL hS kk => ?_) hr
  obtain ⟨_, st, rfl, rfl, hS1⟩ := hS.cons
  obtain ⟨_, st, rfl, rfl, hS2⟩ := hS1.cons
  exact lv_lsub hc.1 hc.2.1 hd (kk _ _ hL ⟨rfl, hS2⟩)
theorem mm_lmul {x y : Int64} (hd : decode (mm_cb k) pc = .ok (.lmul, 1))  (hr : mm_Run l X k d (pc + 1) L (.long (x * y) :: S) σ mc ms o σ') : mm_Run l X k d pc L (.long y :: .long x :: S) σ mc ms o σ' := by
  refine mm_simple (fun hc hL hS kk => ?_) hr
  obtain ⟨_, st, rfl, rfl, hS1⟩ := hS.cons
  obtain ⟨_, st, rfl, rfl, hS2⟩ := hS1.cons
  exact lv_lmul hc.1 hc.2.1 hd (kk _ _ hL ⟨rfl, hS2⟩)
theorem mm_land {x y : Int64} (hd : decode (mm_cb k) pc = .ok (.land, 1))  (hr : mm_Run l X k d (pc + 1) L (.long (x &&& y) :: S) σ mc ms o σ') : mm_Run l X k d pc L (.long y :: .long x :: S) σ mc ms o σ' := by
  refine mm_simple (fun hc hL hS kk => ?_) hr
  obtain ⟨_, st, rfl, rfl, hS1⟩ := hS.cons
  obtain ⟨_, st, rfl, rfl, hS2⟩ := hS1.cons
  exact lv_land hc.1 hc.2.1 hd (kk _ _ hL ⟨rfl, hS2⟩)
theorem mm_lor {x y : Int64} (hd : decode (mm_cb k) pc = .ok (.lor, 1))  (hr : mm_Run l X k d (pc + 1) L (.long (x ||| y) :: S) σ mc ms o σ') : mm_Run l X k d pc L (.long y :: .long x :: S) σ mc ms o σ' := by
  refine mm_simple (fun hc hL hS kk => ?_) hr
  obtain ⟨_, st, rfl, rfl, hS1⟩ := hS.cons
  obtain ⟨_, st, rfl, rfl, hS2⟩ := hS1.cons
  exact lv_lor hc.1 hc.2.1 hd (kk _ _ hL ⟨rfl, hS2⟩)
theorem mm_idiv {x y : Int32} (hd : decode (mm_cb k) pc = .ok (.idiv, 1)) (hne : ¬ y = 0) (hr : mm_Run l X k d (pc + 1) L (.int (x / y) :: S) σ mc ms o σ') : mm_Run l X k d pc L (.int y :: .int x :: S) σ mc ms o σ' := by
  refine mm_simple (fun hc hL hS kk => ?_) hr
  obtain ⟨_, st, rfl, rfl, hS1⟩ := hS.cons
  obtain ⟨_, st, rfl, rfl, hS2⟩ := hS1.cons
  exact lv_idiv hc.1 hc.2.1 hd hne (kk _ _ hL ⟨rfl, hS2⟩)
theorem mm_irem {x y : Int32} (hd : decode (mm_cb k) pc = .ok (.irem, 1)) (hne : ¬ y = 0) (hr : mm_Run l X k d (pc + 1) L (.int (x - x / y * y) :: S) σ mc ms o σ') : mm_Run l X k d pc L (.int y :: .int x :: S) σ mc ms o σ' := by
  refine mm_simple (fun hc hL hS kk => ?_) hr
  obtain ⟨_, st, rfl, rfl, hS1⟩ := hS.cons
  obtain ⟨_, st, rfl, rfl, hS2⟩ := hS1.cons
  exact lv_irem hc.1 hc.2.1 hd hne (kk _ _ hL ⟨rfl, hS2⟩)
theorem mm_ldiv {x y : Int64} (hd : decode (mm_cb k) pc = .ok (.ldiv, 1)) (hne : ¬ y = 0) (hr : mm_Run l X k d (pc + 1) L (.long (x / y) :: S) σ mc ms o σ') : mm_Run l X k d pc L (.long y :: .long x :: S) σ mc ms o σ' := by
  refine mm_simple (fun hc hL hS kk => ?_) hr
  obtain ⟨_, st, rfl, rfl, hS1⟩ := hS.cons
  obtain ⟨_, st, rfl, rfl, hS2⟩ := hS1.cons
  exact lv_ldiv hc.1 hc.2.1 hd hne (kk _ _ hL ⟨rfl, hS2⟩)
theorem mm_lrem {x y : Int64} (hd : decode (mm_cb k) pc = .ok (.lrem, 1)) (hne : ¬ y = 0) (hr : mm_Run l X k d (pc + 1) L (.long (x - x / y * y) :: S) σ mc ms o σ') : mm_Run l X k d pc L (.long y :: .long x :: S) σ mc ms o σ' := by
  refine mm_simple (fun hc hL hS kk => ?_) hr
  obtain ⟨_, st, rfl, rfl, hS1⟩ := hS.cons
  obtain ⟨_, st, rfl, rfl, hS2⟩ := hS1.cons
  exact lv_lrem hc.1 hc.2.1 hd hne (kk _ _ hL ⟨rfl, hS2⟩)
theorem mm_lshl {x : Int64} {y : Int32} (hd : decode (mm_cb k) pc = .ok (.lshl, 1))  (hr : mm_Run l X k d (pc + 1) L (.long (x <<< (y.toInt64 &&& 63)) :: S) σ mc ms o σ') : mm_Run l X k d pc L (.int y :: .long x :: S) σ mc ms o σ' := by
  refine mm_simple (fun hc hL hS kk => ?_) hr
  obtain ⟨_, st, rfl, rfl, hS1⟩ := hS.cons
  obtain ⟨_, st, rfl, rfl, hS2⟩ := hS1.cons
  exact lv_lshl hc.1 hc.2.1 hd rfl (kk _ _ hL ⟨rfl, hS2⟩)
theorem mm_lcmp {x y : Int64} (hd : decode (mm_cb k) pc = .ok (.lcmp, 1))  (hr : mm_Run l X k d (pc + 1) L (.int (lg_cmp x y) :: S) σ mc ms o σ') : mm_Run l X k d pc L (.long y :: .long x :: S) σ mc ms o σ' := by
  refine mm_simple (fun hc hL hS kk => ?_) hr
  obtain ⟨_, st, rfl, rfl, hS1⟩ := hS.cons
  obtain ⟨_, st, rfl, rfl, hS2⟩ := hS1.cons
  exact W.lcmp hc.1 hc.2.1 hd (kk _ _ hL ⟨rfl, hS2⟩)
theorem mm_i2l {x : Int32} (hd : decode (mm_cb k) pc = .ok (.i2l, 1))  (hr : mm_Run l X k d (pc + 1) L (.long x.toInt64 :: S) σ mc ms o σ') : mm_Run l X k d pc L (.int x :: S) σ mc ms o σ' := by
  refine mm_simple (fun hc hL hS kk => ?_) hr
  obtain ⟨_, st, rfl, rfl, hS1⟩ := hS.cons
  exact lv_i2l hc.1 hc.2.1 hd rfl (kk _ _ hL ⟨rfl, hS1⟩)
theorem mm_l2i {x : Int64} (hd : decode (mm_cb k) pc = .ok (.l2i, 1))  (hr : mm_Run l X k d (pc + 1) L (.int x.toInt32 :: S) σ mc ms o σ') : mm_Run l X k d pc L (.long x :: S) σ mc ms o σ' := by
  refine mm_simple (fun hc hL hS kk => ?_) hr
  obtain ⟨_, st, rfl, rfl, hS1⟩ := hS.cons
  exact lv_l2i hc.1 hc.2.1 hd rfl (kk _ _ hL ⟨rfl, hS1⟩)
theorem mm_dup {v : Value} (hd : decode (mm_cb k) pc = .ok (.dup, 1)) (hv : v.category = 1) (hr : mm_Run l X k d (pc + 1) L (v :: v :: S) σ mc ms o σ') : mm_Run l X k d pc L (v :: S) σ mc ms o σ' := by
  refine mm_simple (fun hc hL hS kk => ?_) hr
  obtain ⟨w, st, rfl, h1, hS1⟩ := hS.cons
  exact lv_dup hc.1 hc.2.1 hd (by rw [h1.cat]; exact hv) (kk _ _ hL ⟨h1, h1, hS1⟩)
theorem mm_pop {v : Value} (hd : decode (mm_cb k) pc = .ok (.pop, 1)) (hv : v.category = 1) (hr : mm_Run l X k d (pc + 1) L S σ mc ms o σ') : mm_Run l X k d pc L (v :: S) σ mc ms o σ' := by
  refine mm_simple (fun hc hL hS kk => ?_) hr
  obtain ⟨w, st, rfl, h1, hS1⟩ := hS.cons
  exact lv_pop hc.1 hc.2.1 hd (by rw [h1.cat]; exact hv) (kk _ _ hL hS1)
theorem mm_dup2 {v u : Value} (hd : decode (mm_cb k) pc = .ok (.dup2, 1)) (hv : v.category = 1) (hu : u.category = 1) (hr : mm_Run l X k d (pc + 1) L (v :: u :: v :: u :: S) σ mc ms o σ') : mm_Run l X k d pc L (v :: u :: S) σ mc ms o σ' := by
  refine mm_simple (fun hc hL hS kk => ?_) hr
  obtain ⟨w, st, rfl, h1, hS1⟩ := hS.cons
  obtain ⟨w2, st, rfl, h2, hS2⟩ := hS1.cons
  exact lv_dup2_11 hc.1 hc.2.1 hd (by rw [h1.cat]; exact hv) (by rw [h2.cat]; exact hu) (kk _ _ hL ⟨h1, h2, h1, h2, hS2⟩)
theorem mm_goto {off : Int} {tgt : Nat} (hd : decode (mm_cb k) pc = .ok (.goto off, 3)) (ht : (pc : Int) + off = (tgt : Int)) (hr : mm_Run l X k d tgt L S σ mc ms o σ') : mm_Run l X k d pc L S σ mc ms o σ' :=
  mm_simple (fun hc hL hS kk => lv_goto hc.1 hc.2.1 hd ht (kk _ _ hL hS)) hr
theorem mm_branch {pt pf : Nat} {S' : List Value} {P : Prop}
    (h : ∀ {p : Program} {e : Env} {R : Room} {s : State} {m : MethodId} {args : Array Value} {below : List Frame} {meth : Method} {c : Code} {D : va_G} {A : Nat → Prop} {cI cL : ClassId} {φ ρ : List Nat} {H : Heap} {locs : List Loc} {cells slots : Nat} {ls : Array Slot} {st : List Value} {Q : State → Prop},
      mm_Cx l k d X φ p e R s m args meth c D A cI cL → mm_L φ ρ L ls (mm_ml k) → mm_Vs φ ρ S st →
      (P → ∀ st', mm_Vs φ ρ S' st' → W p l e R s m args below meth c H locs cells slots Q (F0 m pt ls st')) →
      (¬ P → ∀ st', mm_Vs φ ρ S' st' → W p l e R s m args below meth c H locs cells slots Q (F0 m pf ls st')) → W p l e R s m args below meth c H locs cells slots Q (F0 m pc ls st))
    (ht : P → mm_Run l X k d pt L S' σ mc ms o σ') (hf : ¬ P → mm_Run l X k d pf L S' σ mc ms o σ') : mm_Run l X k d pc L S σ mc ms o σ' := by
  intro p e R s m args below meth c D A cI cL φ hc H locs cells slots ρ ws ls st hW hP hD hS hL hV h1 h2
  exact h hc hL hV (fun q st' q2 => ht q hc hW hP hD hS hL q2 h1 h2) (fun q st' q2 => hf q hc hW hP hD hS hL q2 h1 h2)
def mm_cnd (cd : ClassFile.Cond) (x y : Int32) : Prop := match cd with
  | .eq => x = y
  | .ne => ¬ x = y
  | .lt => x < y
  | .ge => y ≤ x
  | .gt => y < x
  | .le => x ≤ y
theorem mm_icmp {cd : ClassFile.Cond} {off : Int} {tgt : Nat} {x y : Int32} (hd : decode (mm_cb k) pc = .ok (.if_icmp cd off, 3)) (ht : (pc : Int) + off = (tgt : Int)) (kt : mm_cnd cd x y → mm_Run l X k d tgt L S σ mc ms o σ') (kf : ¬ mm_cnd cd x y → mm_Run l X k d (pc + 3) L S σ mc ms o σ') :
    mm_Run l X k d pc L (.int y :: .int x :: S) σ mc ms o σ' := by
  refine mm_branch (P := mm_cnd cd x y) (fun hc hL hS ht1 hf1 => ?_) kt kf
  obtain ⟨_, st, rfl, rfl, hS1⟩ := hS.cons
  obtain ⟨_, st, rfl, rfl, hS2⟩ := hS1.cons
  cases cd
  · exact lv_icmp_eq hc.1 hc.2.1 hd ht (fun q => ht1 q _ hS2) (fun q => hf1 q _ hS2)
  · exact lv_icmp_ne hc.1 hc.2.1 hd ht (fun q => ht1 q _ hS2) (fun q => hf1 (fun z => z q) _ hS2)
  · exact lv_icmp_lt hc.1 hc.2.1 hd ht (fun q => ht1 q _ hS2) (fun q => hf1 q _ hS2)
  · exact lv_icmp_ge hc.1 hc.2.1 hd ht (fun q => ht1 q _ hS2) (fun q => hf1 q _ hS2)
  · exact lv_icmp_gt hc.1 hc.2.1 hd ht (fun q => ht1 q _ hS2) (fun q => hf1 q _ hS2)
  · exact lv_icmp_le hc.1 hc.2.1 hd ht (fun q => ht1 q _ hS2) (fun q => hf1 q _ hS2)
theorem mm_if {cd : ClassFile.Cond} {off : Int} {tgt : Nat} {x : Int32} (hd : decode (mm_cb k) pc = .ok (.ifCond cd off, 3)) (ht : (pc : Int) + off = (tgt : Int)) (kt : mm_cnd cd x 0 → mm_Run l X k d tgt L S σ mc ms o σ') (kf : ¬ mm_cnd cd x 0 → mm_Run l X k d (pc + 3) L S σ mc ms o σ') :
    mm_Run l X k d pc L (.int x :: S) σ mc ms o σ' := by
  refine mm_branch (P := mm_cnd cd x 0) (fun hc hL hS ht1 hf1 => ?_) kt kf
  obtain ⟨_, st, rfl, rfl, hS1⟩ := hS.cons
  cases cd
  · exact lv_if_eq hc.1 hc.2.1 hd ht (fun q => ht1 q _ hS1) (fun q => hf1 q _ hS1)
  · exact lv_if_ne hc.1 hc.2.1 hd ht (fun q => ht1 q _ hS1) (fun q => hf1 (fun z => z q) _ hS1)
  · exact lv_if_lt hc.1 hc.2.1 hd ht (fun q => ht1 q _ hS1) (fun q => hf1 q _ hS1)
  · exact lv_if_ge hc.1 hc.2.1 hd ht (fun q => ht1 q _ hS1) (fun q => hf1 q _ hS1)
  · exact lv_if_gt hc.1 hc.2.1 hd ht (fun q => ht1 q _ hS1) (fun q => hf1 q _ hS1)
  · exact lv_if_le hc.1 hc.2.1 hd ht (fun q => ht1 q _ hS1) (fun q => hf1 q _ hS1)
def mm_acd (cd : ClassFile.ACond) (i j : Nat) : Prop := match cd with
  | .eq => i = j
  | .ne => ¬ i = j
theorem mm_acmp {cd : ClassFile.ACond} {off : Int} {tgt i j : Nat} (hd : decode (mm_cb k) pc = .ok (.if_acmp cd off, 3)) (ht : (pc : Int) + off = (tgt : Int)) (hi : i < 3) (hj : j < 3)
    (kt : mm_acd cd i j → mm_Run l X k d tgt L S σ mc ms o σ') (kf : ¬ mm_acd cd i j → mm_Run l X k d (pc + 3) L S σ mc ms o σ') :
    mm_Run l X k d pc L (.retAddr (j + 1) :: .retAddr (i + 1) :: S) σ mc ms o σ' := by
  refine mm_branch (P := mm_acd cd i j) (fun hc hL hS ht1 hf1 => ?_) kt kf
  obtain ⟨_, st, rfl, ⟨a, ha, rfl⟩, hS1⟩ := hS.cons
  obtain ⟨_, st, rfl, ⟨b, hb, rfl⟩, hS2⟩ := hS1.cons
  have hz := hc.2.2.2.2.2.2.2.2.2.1.2.2.1
  have hab : some b = some a ↔ i = j := ⟨fun q => hz i j b hi hj hb (by rw [q]; exact ha), fun q => by subst q; exact hb.symm.trans ha⟩
  cases cd
  · exact lv_acmp_eq (rx := some b) (ry := some a) hc.1 hc.2.1 hd ht (fun q => ht1 (hab.mp q) _ hS2) (fun q => hf1 (fun z => q (hab.mpr z)) _ hS2)
  · exact lv_acmp_ne (rx := some b) (ry := some a) hc.1 hc.2.1 hd ht (fun q => ht1 (fun z => q (hab.mpr z)) _ hS2) (fun q => hf1 (fun z => z (hab.mp q)) _ hS2)
/-! the memory -/
theorem mm_set_ne {α : Type} {f : Nat → Nat → α} {p i q : Nat} {x : α} (h : q ≠ p) : mm_set f p i x q = f q := by
  funext j; simp [mm_set, h]
theorem mm_set_eq {α : Type} {f : Nat → Nat → α} {p i : Nat} {x : α} : mm_set f p i x p = fun j => if j = i then x else f p j := by
  funext j; simp [mm_set]
theorem mm_C.off {φ ρ : List Nat} {cI cL : ClassId} {M M' : mm_M} {p : Nat} {kd : mm_K} {E : va_E} (h : mm_C φ ρ cI cL M p kd E) (h1 : M'.1 p = M.1 p) (h2 : M'.2 p = M.2 p) : mm_C φ ρ cI cL M' p kd E := by
  obtain ⟨t, n, rs⟩ := kd
  match t, h with
  | 0, h => exact (by rw [show E = _ from h, ← h1] : E = .inl (cI, n, .inl (M'.1 p)))
  | 1, h => exact (by rw [show E = _ from h, ← h2] : E = .inl (cL, n, .inr (.inl (M'.2 p))))
  | 2, h =>
    obtain ⟨fs, e, f1, f2⟩ := h
    refine ⟨fs, e, f1, fun j t ht => ?_⟩
    obtain ⟨w, g1, g2⟩ := f2 j t ht
    refine ⟨w, g1, ?_⟩
    match t, g2 with
    | 0, g2 => show w = .int (M'.1 p j); rw [h1]; exact g2
    | 1, g2 => show w = .long (M'.2 p j); rw [h2]; exact g2
    | t + 2, g2 => exact g2
  | t + 3, h => exact h.elim
theorem mm_W.upd {φ ρ : List Nat} {cI cL : ClassId} {Λ : List mm_K} {M M' : mm_M} {ws : va_W} {p a : Nat} {kd kd' : mm_K} {E E' : va_E} (h : mm_W φ ρ cI cL (Λ, M) ws) (hk : Λ[p]? = some kd) (hE : ws[p]? = some (a, E))
    (hoff : ∀ q, q ≠ p → M'.1 q = M.1 q ∧ M'.2 q = M.2 q) (hC : mm_C φ ρ cI cL M' p kd' E') : mm_W φ ρ cI cL (Λ.set p kd', M') (ws.set p (a, E')) := by
  obtain ⟨h1, h2, h3⟩ := h
  have hlt : p < Λ.length := (List.getElem?_eq_some_iff.mp hk).1
  refine ⟨by simpa using h1, by simpa using h2, fun q kd1 hq => ?_⟩
  by_cases hqp : q = p
  · subst hqp
    obtain ⟨a1, E1, g1, g2, -⟩ := h3 q kd hk
    have e1 : (a1, E1) = (a, E) := Option.some.inj (g2.symm.trans hE)
    cases e1
    have hkd : kd1 = kd' := by simpa [hlt] using hq.symm
    subst hkd
    exact ⟨a, E', g1, by simp [h1 ▸ hlt], hC⟩
  · have hq' : Λ[q]? = some kd1 := by
      have : (Λ.set p kd')[q]? = Λ[q]? := List.getElem?_set_ne (fun z => hqp z.symm)
      exact this.symm.trans hq
    obtain ⟨a1, E1, g1, g2, g3⟩ := h3 q kd1 hq'
    exact ⟨a1, E1, g1, by rw [List.getElem?_set_ne (fun z => hqp z.symm)]; exact g2, g3.off (hoff q hqp).1 (hoff q hqp).2⟩
theorem mm_W.same {φ ρ : List Nat} {cI cL : ClassId} {Λ : List mm_K} {M M' : mm_M} {ws : va_W} {p a : Nat} {kd : mm_K} {E E' : va_E} (h : mm_W φ ρ cI cL (Λ, M) ws) (hk : Λ[p]? = some kd) (hE : ws[p]? = some (a, E))
    (hoff : ∀ q, q ≠ p → M'.1 q = M.1 q ∧ M'.2 q = M.2 q) (hC : mm_C φ ρ cI cL M' p kd E') : mm_W φ ρ cI cL (Λ, M') (ws.set p (a, E')) := by
  have h1 := h.upd hk hE hoff hC
  have hlt := (List.getElem?_eq_some_iff.mp hk)
  obtain ⟨hl, he⟩ := hlt
  have : Λ.set p kd = Λ := by rw [← he]; exact List.set_getElem_self hl
  rw [this] at h1
  exact h1
theorem mm_W.get {φ ρ : List Nat} {cI cL : ClassId} {σ : mm_S} {ws : va_W} {p a : Nat} {kd : mm_K} (h : mm_W φ ρ cI cL σ ws) (hk : mm_kd σ.1 p = kd) (h9 : kd.1 ≠ 9) (ha : ρ[p]? = some a) : ∃ E, ws[p]? = some (a, E) ∧ mm_C φ ρ cI cL σ.2 p kd E := by
  obtain ⟨a1, E, g1, g2, g3⟩ := h.2.2 p kd (mm_kd_some hk h9)
  cases Option.some.inj (g1.symm.trans ha)
  exact ⟨E, g2, g3⟩
theorem mm_iaload {p n : Nat} {rs : List Value} {i : Int32} (hd : decode (mm_cb k) pc = .ok (.iaload, 1)) (hk : mm_kd σ.1 p = (0, n, rs)) (hin : vp_in i n) (hr : mm_Run l X k d (pc + 1) L (.int (σ.2.1 p i.toNatClampNeg) :: S) σ mc ms o σ') :
    mm_Run l X k d pc L (.int i :: .ref p :: S) σ mc ms o σ' := by
  intro pp e R s m args below meth c D A cI cL φ hc H locs cells slots ρ ws ls st hW hP hD hS hL hV h1 h2
  obtain ⟨_, st, rfl, rfl, hV1⟩ := hV.cons
  obtain ⟨_, st, rfl, ⟨a, ha, rfl⟩, hV2⟩ := hV1.cons
  obtain ⟨E, g1, g2⟩ := hW.get hk (by simp) ha
  have e1 : E = .inl (cI, n, .inl (σ.2.1 p)) := g2
  subst e1
  exact va_iald hc.1 hc.2.1 hc.2.2.2.2.2.2.2.1 hP p 0 g1 rfl hin hd (hr hc hW hP hD hS hL ⟨rfl, hV2⟩ h1 h2)
theorem mm_laload {p n : Nat} {rs : List Value} {i : Int32} (hd : decode (mm_cb k) pc = .ok (.laload, 1)) (hk : mm_kd σ.1 p = (1, n, rs)) (hin : vp_in i n) (hr : mm_Run l X k d (pc + 1) L (.long (σ.2.2 p i.toNatClampNeg) :: S) σ mc ms o σ') :
    mm_Run l X k d pc L (.int i :: .ref p :: S) σ mc ms o σ' := by
  intro pp e R s m args below meth c D A cI cL φ hc H locs cells slots ρ ws ls st hW hP hD hS hL hV h1 h2
  obtain ⟨_, st, rfl, rfl, hV1⟩ := hV.cons
  obtain ⟨_, st, rfl, ⟨a, ha, rfl⟩, hV2⟩ := hV1.cons
  obtain ⟨E, g1, g2⟩ := hW.get hk (by simp) ha
  have e1 : E = .inl (cL, n, .inr (.inl (σ.2.2 p))) := g2
  subst e1
  exact va_lald hc.1 hc.2.1 hc.2.2.2.2.2.2.2.1 hP p 1 g1 rfl hin hd (hr hc hW hP hD hS hL ⟨rfl, hV2⟩ h1 h2)
theorem mm_iastore {p n : Nat} {rs : List Value} {i x : Int32} (hd : decode (mm_cb k) pc = .ok (.iastore, 1)) (hk : mm_kd σ.1 p = (0, n, rs)) (hin : vp_in i n) (hr : mm_Run l X k d (pc + 1) L S (σ.1, mm_set σ.2.1 p i.toNatClampNeg x, σ.2.2) mc ms o σ') :
    mm_Run l X k d pc L (.int x :: .int i :: .ref p :: S) σ mc ms o σ' := by
  intro pp e R s m args below meth c D A cI cL φ hc H locs cells slots ρ ws ls st hW hP hD hS hL hV h1 h2
  obtain ⟨_, st, rfl, rfl, hV1⟩ := hV.cons
  obtain ⟨_, st, rfl, rfl, hV2⟩ := hV1.cons
  obtain ⟨_, st, rfl, ⟨a, ha, rfl⟩, hV3⟩ := hV2.cons
  obtain ⟨E, g1, g2⟩ := hW.get hk (by simp) ha
  have e1 : E = .inl (cI, n, .inl (σ.2.1 p)) := g2
  subst e1
  refine va_iast hc.1 hc.2.1 hc.2.2.2.2.2.2.2.1 hP hD hS p 0 g1 rfl hin hd (fun H1 locs1 q1 q2 q3 => ?_)
  refine hr hc (hW.same (Λ := σ.1) (M := σ.2) (mm_kd_some hk (by simp)) g1 (fun q hq => ⟨mm_set_ne hq, rfl⟩) ?_) q1 q2 q3 hL hV3 h1 h2
  show _ = _
  simp only [mm_set_eq]
  rfl
theorem mm_lastore {p n : Nat} {rs : List Value} {i : Int32} {x : Int64} (hd : decode (mm_cb k) pc = .ok (.lastore, 1)) (hk : mm_kd σ.1 p = (1, n, rs)) (hin : vp_in i n) (hr : mm_Run l X k d (pc + 1) L S (σ.1, σ.2.1, mm_set σ.2.2 p i.toNatClampNeg x) mc ms o σ') :
    mm_Run l X k d pc L (.long x :: .int i :: .ref p :: S) σ mc ms o σ' := by
  intro pp e R s m args below meth c D A cI cL φ hc H locs cells slots ρ ws ls st hW hP hD hS hL hV h1 h2
  obtain ⟨_, st, rfl, rfl, hV1⟩ := hV.cons
  obtain ⟨_, st, rfl, rfl, hV2⟩ := hV1.cons
  obtain ⟨_, st, rfl, ⟨a, ha, rfl⟩, hV3⟩ := hV2.cons
  obtain ⟨E, g1, g2⟩ := hW.get hk (by simp) ha
  have e1 : E = .inl (cL, n, .inr (.inl (σ.2.2 p))) := g2
  subst e1
  refine va_last hc.1 hc.2.1 hc.2.2.2.2.2.2.2.1 hP hD hS p 1 g1 rfl hin hd (fun H1 locs1 q1 q2 q3 => ?_)
  refine hr hc (hW.same (Λ := σ.1) (M := σ.2) (mm_kd_some hk (by simp)) g1 (fun q hq => ⟨rfl, mm_set_ne hq⟩) ?_) q1 q2 q3 hL hV3 h1 h2
  show _ = _
  simp only [mm_set_eq]
  rfl
theorem mm_scload {i : Int32} (hd : decode (mm_cb k) pc = .ok (.iaload, 1)) (hin : vp_in i X.1) (hr : mm_Run l X k d (pc + 1) L (.int (X.2 i.toNatClampNeg) :: S) σ mc ms o σ') :
    mm_Run l X k d pc L (.int i :: .retAddr 0 :: S) σ mc ms o σ' := by
  intro pp e R s m args below meth c D A cI cL φ hc H locs cells slots ρ ws ls st hW hP hD hS hL hV h1 h2
  obtain ⟨_, st, rfl, rfl, hV1⟩ := hV.cons
  obtain ⟨_, st, rfl, ⟨a, ha, rfl⟩, hV2⟩ := hV1.cons
  obtain ⟨b, g1, g2, g3, g4⟩ := hc.2.2.2.2.2.2.2.2.2.1.1
  cases Option.some.inj (g1.symm.trans ha)
  exact va_sld hc.1 hc.2.1 g2 g4 g3 hS hin hd (hr hc hW hP hD hS hL ⟨rfl, hV2⟩ h1 h2)
theorem mm_sclen (hd : decode (mm_cb k) pc = .ok (.arraylength, 1)) (hr : mm_Run l X k d (pc + 1) L (.int (Int32.ofNat X.1) :: S) σ mc ms o σ') :
    mm_Run l X k d pc L (.retAddr 0 :: S) σ mc ms o σ' := by
  intro pp e R s m args below meth c D A cI cL φ hc H locs cells slots ρ ws ls st hW hP hD hS hL hV h1 h2
  obtain ⟨_, st, rfl, ⟨a, ha, rfl⟩, hV1⟩ := hV.cons
  obtain ⟨b, g1, g2, g3, g4⟩ := hc.2.2.2.2.2.2.2.2.2.1.1
  cases Option.some.inj (g1.symm.trans ha)
  exact va_slen hc.1 hc.2.1 g2 g4 g3 hS hd (hr hc hW hP hD hS hL ⟨rfl, hV1⟩ h1 h2)
theorem mm_getstatic {idx j : Nat} (hd : decode (mm_cb k) pc = .ok (.getstatic idx, 3)) (hj : j < 3) (hl : Cond.fieldLink (mm_yn k).cls idx mm_oc (mm_on j) mm_od ∈ mm_tb) (hr : mm_Run l X k d (pc + 3) L (.retAddr (j + 1) :: S) σ mc ms o σ') :
    mm_Run l X k d pc L S σ mc ms o σ' := by
  intro pp e R s m args below meth c D A cI cL φ hc H locs cells slots ρ ws ls st hW hP hD hS hL hV h1 h2
  obtain ⟨a, ha, hz⟩ := hc.2.2.2.2.2.2.2.2.2.1.2.1 j hj
  exact va_gets hc.1 hc.2.1 hz hS hc.2.2.2.2.2.1 (hc.2.2.2.2.2.2.1 _ hl) (fun x h => h) hd (hr hc hW hP hD hS hL ⟨⟨a, ha, rfl⟩, hV⟩ h1 h2)
/-! fields -/
def mm_tk : FieldType → Nat
  | .int => 0
  | .long => 1
  | .object _ => 2
  | .array _ => 2
  | _ => 7
def mm_okc (ci : Nat) : Prop := ∃ (C : String) (T : u_T) (N : Nat), mm_cl[ci]? = some (C, T, N) ∧ N = (mm_fk ci).length ∧ (∀ w ∈ u_ws C T N, w ∈ mm_tb) ∧
  (∃ ty0 : Nat → FieldType, ∀ j, j < N → parseFieldDescriptor (T j).2.2.1 = some (ty0 j) ∧ (mm_fk ci)[j]? = some (mm_tk (ty0 j)) ∧ mm_tk (ty0 j) < 3) ∧ (∀ a, a < N → ∀ b, b < N → a ≠ b → (T a).2.1 ≠ (T b).2.1)
def mm_okf (k idx ci j : Nat) : Prop := ∃ (C : String) (T : u_T) (N : Nat), mm_cl[ci]? = some (C, T, N) ∧ j < N ∧ Cond.fieldLink (mm_yn k).cls idx (T j).1 (T j).2.1 (T j).2.2.1 ∈ mm_tb
def mm_okp (k ci j : Nat) : Prop := ∀ (C : String) (T : u_T) (N : Nat), mm_cl[ci]? = some (C, T, N) → ((T j).2.2.2 = false ∨ ((T j).2.2.2 = true ∧ (mm_yn k).name = "<init>" ∧ (T j).1 = (mm_yn k).cls))
def mm_fv (M : mm_M) (p ci j : Nat) (rs : List Value) : Value := match (mm_fk ci)[j]? with
  | some 0 => .int (M.1 p j)
  | some 1 => .long (M.2 p j)
  | some _ => mm_nth rs j
  | none => .null
theorem mm_getfield {idx p ci j : Nat} {rs : List Value} {v : Value} (hd : decode (mm_cb k) pc = .ok (.getfield idx, 3)) (hc0 : mm_okc ci) (hf : mm_okf k idx ci j) (hk : mm_kd σ.1 p = (2, ci, rs)) (hv : mm_fv σ.2 p ci j rs = v) (hn : v ≠ .null)
    (hr : mm_Run l X k d (pc + 3) L (v :: S) σ mc ms o σ') : mm_Run l X k d pc L (.ref p :: S) σ mc ms o σ' := by
  intro pp e R s m args below meth c D A cI cL φ hc H locs cells slots ρ ws ls st hW hP hD hS hL hV h1 h2
  obtain ⟨_, st, rfl, ⟨a, ha, rfl⟩, hV1⟩ := hV.cons
  obtain ⟨E, g1, g2⟩ := hW.get hk (by simp) ha
  obtain ⟨fs, e1, f1, f2⟩ := g2
  subst e1
  obtain ⟨C, T, N, c1, c2, c3, -⟩ := hc0
  obtain ⟨C', T', N', d1, d2, d3⟩ := hf
  cases Option.some.inj (c1.symm.trans d1)
  have hj : j < (mm_fk ci).length := by omega
  obtain ⟨w, w1, w2⟩ := f2 j _ (List.getElem?_eq_getElem hj)
  have hvw : mm_V φ ρ v w := by
    subst hv
    unfold mm_fv at hn ⊢
    rw [List.getElem?_eq_getElem hj] at hn ⊢
    generalize (mm_fk ci)[j] = t at hn w2 ⊢
    match t, hn, w2 with
    | 0, _, w2 => exact w2
    | 1, _, w2 => exact w2
    | t + 2, hn, w2 => exact w2 hn
  exact va_get hc.1 hc.2.1 hc.2.2.2.2.2.2.1 c3 hc.2.2.2.2.2.1 hc.2.2.2.2.2.2.2.1 hP p g1 c1 j d2 (hc.2.2.2.2.2.2.1 _ d3) (fun x h => h) w1 hd (hr hc hW hP hD hS hL ⟨hvw, hV1⟩ h1 h2)
def mm_pv (σ : mm_S) (p ci j : Nat) (rs : List Value) (v : Value) : mm_S := match v with
  | .int x => (σ.1, mm_set σ.2.1 p j x, σ.2.2)
  | .long x => (σ.1, σ.2.1, mm_set σ.2.2 p j x)
  | v => (σ.1.set p (2, ci, rs.set j v), σ.2)
def mm_vk : Value → Nat
  | .int _ => 0
  | .long _ => 1
  | .ref _ => 2
  | .retAddr _ => 2
  | _ => 8
theorem mm_nth_set {rs : List Value} {j i : Nat} {v : Value} (h : j < rs.length) : mm_nth (rs.set j v) i = if i = j then v else mm_nth rs i := by
  induction rs generalizing j i with
  | nil => simp at h
  | cons x rs ih =>
    cases j with
    | zero => cases i <;> simp [mm_nth]
    | succ j =>
      cases i with
      | zero => simp [mm_nth]
      | succ i => simpa [mm_nth] using ih (j := j) (i := i) (by simpa using h)
theorem mm_putfield {idx p ci j : Nat} {rs : List Value} {v : Value} (hd : decode (mm_cb k) pc = .ok (.putfield idx, 3)) (hc0 : mm_okc ci) (hf : mm_okf k idx ci j) (hpu : mm_okp k ci j) (hk : mm_kd σ.1 p = (2, ci, rs)) (hv : (mm_fk ci)[j]? = some (mm_vk v)) (hrl : rs.length = (mm_fk ci).length)
    (hr : mm_Run l X k d (pc + 3) L S (mm_pv σ p ci j rs v) mc ms o σ') : mm_Run l X k d pc L (v :: .ref p :: S) σ mc ms o σ' := by
  intro pp e R s m args below meth c D A cI cL φ hc H locs cells slots ρ ws ls st hW hP hD hS hL hV h1 h2
  obtain ⟨w, st, rfl, hw, hV1⟩ := hV.cons
  obtain ⟨_, st, rfl, ⟨a, ha, rfl⟩, hV2⟩ := hV1.cons
  obtain ⟨E, g1, g2⟩ := hW.get hk (by simp) ha
  obtain ⟨fs, e1, f1, f2⟩ := g2
  subst e1
  obtain ⟨C, T, N, c1, c2, c3, ⟨ty0, c4⟩, c5⟩ := hc0
  obtain ⟨C', T', N', d1, d2, d3⟩ := hf
  cases Option.some.inj (c1.symm.trans d1)
  have hj : j < (mm_fk ci).length := by omega
  obtain ⟨t1, t2, -⟩ := c4 j d2
  have htk : mm_tk (ty0 j) = mm_vk v := Option.some.inj (t2.symm.trans hv)
  have hnf : narrow (ty0 j) w = w ∧ fits (ty0 j) w = true := by
    generalize ty0 j = ty at htk
    cases v <;> simp only [mm_vk] at htk <;> cases ty <;> simp only [mm_tk] at htk <;> first | (exact absurd htk (by decide)) | (obtain ⟨b, -, rfl⟩ := hw; exact ⟨rfl, rfl⟩) | (cases hw; exact ⟨rfl, rfl⟩)
  have hend : ∀ (H1 : Heap) (locs1 : List Loc), va_P D mm_cl (ws.set p (a, .inr (ci, fs.set j w))) H1 → va_D A (ws.set p (a, .inr (ci, fs.set j w))) → va_S A s.heap H1 locs1 → W pp l e R s m args below meth c H1 locs1 cells slots (mm_Q φ ρ D A cI cL below s (cells + mc) (slots + ms) o σ') (F0 m (pc + 3) ls st) := by
    intro H1 locs1 q1 q2 q3
    refine hr hc ?_ q1 q2 q3 hL hV2 h1 h2
    have hkd := mm_kd_some hk (by simp)
    have hold : ∀ (M' : mm_M) (rs' : List Value), (∀ i t, (mm_fk ci)[i]? = some t → i ≠ j → (match t with | 0 => M'.1 p i = σ.2.1 p i | 1 => M'.2 p i = σ.2.2 p i | _ => mm_nth rs' i = mm_nth rs i)) →
        (match mm_vk v with | 0 => w = .int (M'.1 p j) | 1 => w = .long (M'.2 p j) | _ => mm_nth rs' j ≠ .null → mm_V φ ρ (mm_nth rs' j) w) → mm_C φ ρ cI cL M' p (2, ci, rs') (.inr (ci, fs.set j w)) := by
      intro M' rs' ho hn
      refine ⟨fs.set j w, rfl, by simpa using f1, fun i t ht => ?_⟩
      by_cases hij : i = j
      · subst hij
        have htv : t = mm_vk v := Option.some.inj (ht.symm.trans hv)
        subst htv
        exact ⟨w, by simp [f1, hj], hn⟩
      · obtain ⟨w1, x1, x2⟩ := f2 i t ht
        refine ⟨w1, by rw [List.getElem?_set_ne (fun z => hij z.symm)]; exact x1, ?_⟩
        have hoo := ho i t ht hij
        match t, x2, hoo with
        | 0, x2, hoo => exact x2.trans (by rw [hoo])
        | 1, x2, hoo => exact x2.trans (by rw [hoo])
        | t + 2, x2, hoo => intro hnn; rw [show mm_nth rs' i = mm_nth rs i from hoo] at hnn ⊢; exact x2 hnn
    cases v with
    | int x =>
      cases hw
      refine hW.same (Λ := σ.1) (M := σ.2) hkd g1 (fun q hq => ⟨mm_set_ne hq, rfl⟩) (hold _ rs ?_ ?_)
      · intro i t _ hij
        match t with
        | 0 => show mm_set σ.2.1 p j x p i = _; simp [mm_set, hij]
        | 1 => rfl
        | t + 2 => rfl
      · show Value.int x = .int (mm_set σ.2.1 p j x p j); simp [mm_set]
    | long x =>
      cases hw
      refine hW.same (Λ := σ.1) (M := σ.2) hkd g1 (fun q hq => ⟨rfl, mm_set_ne hq⟩) (hold _ rs ?_ ?_)
      · intro i t _ hij
        match t with
        | 0 => rfl
        | 1 => show mm_set σ.2.2 p j x p i = _; simp [mm_set, hij]
        | t + 2 => rfl
      · show Value.long x = .long (mm_set σ.2.2 p j x p j); simp [mm_set]
    | ref x =>
      refine hW.upd (Λ := σ.1) (M := σ.2) hkd g1 (fun q hq => ⟨rfl, rfl⟩) (hold _ _ ?_ ?_)
      · intro i t _ hij
        match t with
        | 0 => rfl
        | 1 => rfl
        | t + 2 => show mm_nth _ i = _; rw [mm_nth_set (by omega), if_neg hij]
      · show _ → _; rw [mm_nth_set (by omega), if_pos rfl]; exact fun _ => hw
    | retAddr x =>
      refine hW.upd (Λ := σ.1) (M := σ.2) hkd g1 (fun q hq => ⟨rfl, rfl⟩) (hold _ _ ?_ ?_)
      · intro i t _ hij
        match t with
        | 0 => rfl
        | 1 => rfl
        | t + 2 => show mm_nth _ i = _; rw [mm_nth_set (by omega), if_neg hij]
      · show _ → _; rw [mm_nth_set (by omega), if_pos rfl]; exact fun _ => hw
    | _ =>
      exfalso
      generalize ty0 j = ty at htk
      cases ty <;> simp [mm_tk, mm_vk] at htk
  rcases hpu C T N c1 with hfi | ⟨hfi, hin, hdc⟩
  · exact va_put hc.1 hc.2.1 hc.2.2.2.2.2.2.1 c3 ty0 (fun i hi => (c4 i hi).1) c5 hc.2.2.2.2.2.1 hc.2.2.2.2.2.2.2.1 hP hD hS p g1 c1 j d2 (hc.2.2.2.2.2.2.1 _ d3) (fun x h => h) hfi t1 hnf.1 hnf.2 (by omega) hd hend
  · exact va_putF hc.1 hc.2.1 hc.2.2.2.2.2.2.1 c3 ty0 (fun i hi => (c4 i hi).1) c5 hc.2.2.2.2.2.1 hc.2.2.2.2.2.2.2.1 hP hD hS p g1 c1 j d2 (hc.2.2.2.2.2.2.1 _ d3) (fun x h => h) hfi (hc.2.2.2.2.2.2.2.2.2.2.2.2.1.trans hin) hdc t1 hnf.1 hnf.2 (by omega) hd hend
end MM
end
section
/-! ===== answers; a method's contract; calls that come back ===== -/
theorem mm_Wmono {p : Program} {l : Launch} {e : Env} {R : Room} {s : State} {m : MethodId} {args : Array Value} {below : List Frame} {meth : Method} {c : Code} {H : Heap} {locs : List Loc} {cells slots : Nat} {Q Q' : State → Prop} {g : JFrame}
    (h : ∀ t, Q t → Q' t) (k : W p l e R s m args below meth c H locs cells slots Q g) : W p l e R s m args below meth c H locs cells slots Q' g := by
  intro T hT X
  obtain ⟨t, a, b⟩ := k T hT X
  exact ⟨t, a, h t b⟩
theorem mm_Q.ext {φ ρ δ : List Nat} {D : va_G} {A : Nat → Prop} {cI cL : ClassId} {below : List Frame} {s : State} {nc ns nc' ns' : Nat} {o : mm_O} {σ' : mm_S} {t : State} (h : mm_Q φ (ρ ++ δ) D A cI cL below s nc ns o σ' t) (h1 : nc = nc') (h2 : ns = ns') :
    mm_Q φ ρ D A cI cL below s nc' ns' o σ' t := by
  subst h1; subst h2
  obtain ⟨ro, δ', ws', Lc, q⟩ := h
  rw [List.append_assoc] at q
  exact ⟨ro, δ ++ δ', ws', Lc, q⟩
theorem mm_Fz.move {X : Nat × (Nat → Int32)} {φ : List Nat} {A : Nat → Prop} {s U : State} {H : Heap} {locs : List Loc} (h : mm_Fz X φ A s s.heap) (hS : va_S A s.heap H locs) (hvm : s.vm.Alike U.vm) (hU : U.heap = H) : mm_Fz X φ A U U.heap := by
  subst hU
  obtain ⟨⟨b, b1, b2, b3, b4⟩, h2, h3, h4, h5, h6, h7, h8⟩ := h
  refine ⟨⟨b, b1, (b2.kept (hS.2.1 b b4 b3)).moved hvm, b3, Nat.lt_of_lt_of_le b4 hS.1⟩, fun j hj => ?_, h3, (h4.kept hS.2.1).moved hvm, (h5.kept hS.2.1).moved hvm, fun i j hi hj hij => (h6 i j hi hj hij).moved hvm, (h7.kept hS.2.1).moved hvm, (h8.kept hS.2.1).moved hvm⟩
  obtain ⟨a, a1, a2⟩ := h2 j hj
  exact ⟨a, a1, (a2.kept hS.2.1).moved hvm⟩
section MMR
variable {l : Launch} {X : Nat × (Nat → Int32)} {k d pc : Nat} {L S : List Value} {σ σ' : mm_S} {mc ms : Nat} {o : mm_O}
/-- more room may be asked for than is used -/
theorem mm_widen {mc' ms' : Nat} (h1 : mc ≤ mc') (h2 : ms ≤ ms') (hr : mm_Run l X k d pc L S σ mc ms o σ') : mm_Run l X k d pc L S σ mc' ms' o σ' := by
  intro p e R s m args below meth c D A cI cL φ hc H locs cells slots ρ ws ls st hW hP hD hS hL hV q1 q2
  refine mm_Wmono (fun t h => ?_) (hr hc hW hP hD hS hL hV (by omega) (by omega))
  obtain ⟨ro, δ, ws', Lc, a1, a2, a3, a4, a5, a6, a7, a8, a9⟩ := h
  exact ⟨ro, δ, ws', Lc, a1, a2, a3, a4, a5, a6, a7, a8.mono (by omega) (by omega), a9⟩
theorem mm_deeper {d' : Nat} (h : d ≤ d') (hr : mm_Run l X k d pc L S σ mc ms o σ') : mm_Run l X k d' pc L S σ mc ms o σ' := by
  intro p e R s m args below meth c D A cI cL φ hc
  obtain ⟨a1, a2, a3, a4, a5, a6, a7, a8, a9, a10, a11, a12, a13⟩ := hc
  exact hr ⟨a1, a2, a3, a4, a5, a6, a7, a8, a9, a10, by omega, by omega, a13⟩
theorem mm_ret0 {v : Option Value}
    (h : ∀ {p : Program} {e : Env} {R : Room} {s : State} {m : MethodId} {args : Array Value} {below : List Frame} {meth : Method} {c : Code} {D : va_G} {A : Nat → Prop} {cI cL : ClassId} {φ ρ : List Nat} {locs : List Loc} {cells slots : Nat} {ls : Array Slot} {st : List Value} {T : State},
      mm_Cx l k d X φ p e R s m args meth c D A cI cL → mm_Vs φ ρ S st → Stand p l e R s m args below meth c T locs cells slots →
      ∃ vr, mm_Vo φ ρ v vr ∧ (meth.sig.returnType = none → vr = none) ∧ ∀ fs, (∀ (f : JFrame) (acts : List Action), f.method = m → f.locked = none → f.entered = [] → (doReturn e (T.setTop f) acts vr).1 = T.setFrames fs) → Steps p.tables e below (T.setTop (F0 m pc ls st)) (T.setFrames fs)) :
    mm_Run l X k d pc L S σ mc ms (.inl v) σ := by
  intro p e R s m args below meth c D A cI cL φ hc H locs cells slots ρ ws ls st hW hP hD hS hL hV q1 q2 T hT Y
  subst hT
  obtain ⟨vr, v1, v2, v3⟩ := h (ρ := ρ) (ls := ls) hc hV Y
  obtain ⟨fs, hret, hrun, hended, hWm, hframe⟩ := Y.leave (v := vr) v2 hc.2.2.2.2.1
  refine ⟨T.setFrames fs, v3 fs hret, .returned vr, [], ws, locs, hrun, hended, ?_, hP, hD, hS, hWm, hframe.mono (by omega) (by omega), vr, rfl, ?_⟩
  · rw [List.append_nil]; exact hW
  · rw [List.append_nil]; exact v1
theorem mm_ireturn {x : Int32} (hd : decode (mm_cb k) pc = .ok (.ireturn, 1)) (hr : mm_rt k = some .int) : mm_Run l X k d pc L [.int x] σ mc ms (.inl (some (.int x))) σ := by
  refine mm_ret0 fun hc hV Y => ?_
  obtain ⟨_, st, rfl, rfl, hVn⟩ := hV.cons
  cases st with
  | cons _ _ => exact hVn.elim
  | nil =>
    have hr' := hc.2.2.2.1.trans hr
    refine ⟨some (.int x), rfl, (fun q => by rw [hr'] at q; cases q), fun fs hret => ?_⟩
    have hmeth' := Y.method'
    have hexec := hc.1
    have hb := hc.2.1
    jvm_step Y.here [Y.here.top, hexec, hb, hd, hmeth', hr', narrow]
    (try refine ⟨rfl, ?_⟩); (try refine ⟨rfl, ?_⟩)
    first | (intro acts; rw [hret _ acts rfl rfl rfl]) | rw [hret _ _ rfl rfl rfl]
    exact Steps.refl _
theorem mm_zreturn {x : Int32} (hd : decode (mm_cb k) pc = .ok (.ireturn, 1)) (hr : mm_rt k = some .boolean) (hx : x = 0 ∨ x = 1) : mm_Run l X k d pc L [.int x] σ mc ms (.inl (some (.int x))) σ := by
  refine mm_ret0 fun hc hV Y => ?_
  obtain ⟨_, st, rfl, rfl, hVn⟩ := hV.cons
  cases st with
  | cons _ _ => exact hVn.elim
  | nil =>
    have hr' := hc.2.2.2.1.trans hr
    refine ⟨some (.int x), rfl, (fun q => by rw [hr'] at q; cases q), fun fs hret => ?_⟩
    have hmeth' := Y.method'
    have hexec := hc.1
    have hb := hc.2.1
    have hn : narrow .boolean (.int x) = .int x := by rcases hx with rfl | rfl <;> rfl
    jvm_step Y.here [Y.here.top, hexec, hb, hd, hmeth', hr', hn]
    (try refine ⟨rfl, ?_⟩); (try refine ⟨rfl, ?_⟩)
    first | (intro acts; rw [hret _ acts rfl rfl rfl]) | rw [hret _ _ rfl rfl rfl]
    exact Steps.refl _
theorem mm_lreturn {x : Int64} (hd : decode (mm_cb k) pc = .ok (.lreturn, 1)) (hr : mm_rt k = some .long) : mm_Run l X k d pc L [.long x] σ mc ms (.inl (some (.long x))) σ := by
  refine mm_ret0 fun hc hV Y => ?_
  obtain ⟨_, st, rfl, rfl, hVn⟩ := hV.cons
  cases st with
  | cons _ _ => exact hVn.elim
  | nil =>
    have hr' := hc.2.2.2.1.trans hr
    refine ⟨some (.long x), rfl, (fun q => by rw [hr'] at q; cases q), fun fs hret => ?_⟩
    have hmeth' := Y.method'
    have hexec := hc.1
    have hb := hc.2.1
    jvm_step Y.here [Y.here.top, hexec, hb, hd, hmeth', hr', narrow]
    (try refine ⟨rfl, ?_⟩); (try refine ⟨rfl, ?_⟩)
    first | (intro acts; rw [hret _ acts rfl rfl rfl]) | rw [hret _ _ rfl rfl rfl]
    exact Steps.refl _
theorem mm_vreturn (hd : decode (mm_cb k) pc = .ok (.return_, 1)) (hr : mm_rt k = none) : mm_Run l X k d pc L [] σ mc ms (.inl none) σ := by
  refine mm_ret0 fun hc hV Y => ?_
  rename_i st _
  cases st with
  | cons _ _ => exact hV.elim
  | nil =>
    have hr' := hc.2.2.2.1.trans hr
    refine ⟨none, trivial, fun _ => rfl, fun fs hret => ?_⟩
    have hmeth' := Y.method'
    have hexec := hc.1
    have hb := hc.2.1
    jvm_step Y.here [Y.here.top, hexec, hb, hd, hmeth', hr']
    (try refine ⟨rfl, ?_⟩); (try refine ⟨rfl, ?_⟩)
    first | (intro acts; rw [hret _ acts rfl rfl rfl]) | rw [hret _ _ rfl rfl rfl]
    exact Steps.refl _
theorem mm_areturn {v : Value} {n : String} (hd : decode (mm_cb k) pc = .ok (.areturn, 1)) (hr : mm_rt k = some (.object n)) (hv : (∃ p, v = .ref p) ∨ ∃ j, v = .retAddr j) : mm_Run l X k d pc L [v] σ mc ms (.inl (some v)) σ := by
  refine mm_ret0 fun hc hV Y => ?_
  obtain ⟨w, st, rfl, hw, hVn⟩ := hV.cons
  obtain ⟨a, rfl⟩ := mm_isref hw hv
  cases st with
  | cons _ _ => exact hVn.elim
  | nil =>
    have hr' := hc.2.2.2.1.trans hr
    refine ⟨some (.ref a), hw, (fun q => by rw [hr'] at q; cases q), fun fs hret => ?_⟩
    have hmeth' := Y.method'
    have hexec := hc.1
    have hb := hc.2.1
    jvm_step Y.here [Y.here.top, hexec, hb, hd, hmeth', hr']
    (try refine ⟨rfl, ?_⟩); (try refine ⟨rfl, ?_⟩)
    first | (intro acts; rw [hret _ acts rfl rfl rfl]) | rw [hret _ _ rfl rfl rfl]
    exact Steps.refl _
end MMR
/-! a method, entered with arguments -/
def mm_Call (l : Launch) (X : Nat × (Nat → Int32)) (k d : Nat) (as : List Value) (σ : mm_S) (mc ms : Nat) (o : mm_O) (σ' : mm_S) : Prop :=
  mm_Run l X k d 0 (mm_pad (mm_ml k) (mm_en as)) [] σ mc ms o σ'
def mm_rm (d mc ms : Nat) : Room := { frames := d + 10, cells := mc, slots := ms, locals := 100 * d + 300 }
theorem mm_rm_f (d mc ms : Nat) : (mm_rm d mc ms).frames = d + 10 := rfl
theorem mm_rm_l (d mc ms : Nat) : (mm_rm d mc ms).locals = 100 * d + 300 := rfl
set_option maxRecDepth 8000 in
theorem mm_ar {z d r : Nat} (h1 : z ≤ 60) (h2 : 100 * (d + 1) + 300 ≤ r) : 8 + (z + 11) + (100 * d + 300) ≤ r := by omega
def mm_is (k : Nat) : Prop := plainName (mm_yn k).cls = true ∧ ∀ (args : Array Value) (s : State) (m : MethodId), (∀ w ∈ mm_tb, w.before args s = true) → s.methodNamed? (mm_yn k) = some m →
  ∃ meth c, s.vm.method? m = some meth ∧ meth.code = some c ∧ c.code = mm_cb k ∧ c.maxLocals = mm_ml k ∧ meth.sig.returnType = mm_rt k ∧ meth.locks = false ∧
    c.exceptionTable.toList.map (fun h => (h.startPc, h.endPc, h.handlerPc, h.catchType)) = mm_ht k ∧ meth.name = (mm_yn k).name
theorem mm_is_of {k : Nat} (h0 : plainName (mm_yn k).cls = true) (h : Cond.code (mm_yn k) (mm_cb k) (mm_ml k) (mm_rt k) ∈ mm_tb) (h2 : mm_ht k = []) : mm_is k := by
  refine ⟨h0, fun args s m hts hn => ?_⟩
  obtain ⟨meth, c, a1, a2, a3, a4, a5, a6, a7, -⟩ := Cond.code_spec hn (hts _ h)
  refine ⟨meth, c, a1, a2, a3, a4, a5, a6, ?_, (name_of_methodNamed hn a1).1⟩
  have : c.exceptionTable = #[] := by simpa using a7
  rw [this, h2]; rfl
theorem mm_is_ofW {k : Nat} (h0 : plainName (mm_yn k).cls = true) (h : Cond.codeWith (mm_yn k) (mm_cb k) (mm_ml k) (mm_rt k) (mm_ht k) ∈ mm_tb) : mm_is k := by
  refine ⟨h0, fun args s m hts hn => ?_⟩
  obtain ⟨m', meth, c, a0, a1, a2, a3, a4, a5, a6, a7, -⟩ := Cond.codeWith_spec (hts _ h)
  cases hn.symm.trans a0
  exact ⟨meth, c, a1, a2, a3, a4, a6, a7, a5, (name_of_methodNamed hn a1).1⟩
def mm_P (X : Nat × (Nat → Int32)) (φ : List Nat) (D : va_G) (A : Nat → Prop) (cI cL : ClassId) (ws : va_W) (avr : List Value) : Array Value → State → Prop := fun a U =>
  a = avr.toArray ∧ va_K D mm_cl [(cI, .int), (cL, .long)] U ∧ va_P D mm_cl ws U.heap ∧ va_D A ws ∧ (∀ q, U.heap.size ≤ q → A q) ∧ mm_Fz X φ A U U.heap
theorem mm_P.blind {X : Nat × (Nat → Int32)} {φ : List Nat} {D : va_G} {A : Nat → Prop} {cI cL : ClassId} {ws : va_W} {avr : List Value} : FrameBlind (mm_P X φ D A cI cL ws avr) := by
  intro a U g mk h
  obtain ⟨h1, h2, h3, h4, h5, h6⟩ := h
  have hvm : U.vm.Alike (U.calling g mk a).vm := (State.WarmedH.refl U).alike
  exact ⟨h1, h2.moved hvm, h3, h4, h5, h6.move (va_S.rf (A := A)) hvm rfl⟩
def mm_QO (φ ρ : List Nat) (D : va_G) (A : Nat → Prop) (cI cL : ClassId) (o : mm_O) (σ' : mm_S) : Array Value → State → Outcome → State → Prop := fun _ st oc t =>
  ∃ δ ws', mm_W φ (ρ ++ δ) cI cL σ' ws' ∧ va_P D mm_cl ws' t.heap ∧ va_D A ws' ∧ va_F A st t ∧ mm_Oc φ (ρ ++ δ) st o oc t
theorem mm_free {l : Launch} {X : Nat × (Nat → Int32)} {k d : Nat} {as : List Value} {σ σ' : mm_S} {mc ms : Nat} {o : mm_O} (hk : mm_is k) (hcat : (as.map fun v => v.category).sum ≤ mm_ml k) (htr : ∀ e' : Env, l.admits e' → e'.platform.stackTraces = false)
    (h : mm_Call l X k d as σ mc ms o σ') {φ ρ : List Nat} {D : va_G} {A : Nat → Prop} {cI cL : ClassId} {ws : va_W} {avr : List Value} (hv : mm_Vs φ ρ as avr) (hW : mm_W φ ρ cI cL σ ws) :
    MetFree l (mm_yn k) (headSpec mm_tb (mm_rm d mc ms)) (mm_P X φ D A cI cL ws avr) (fun _ _ _ _ _ => True)
      (fun a st oc t => mm_QO φ ρ D A cI cL o σ' a st oc t ∧ ∃ Lc, st.WarmedH t.vm ∧ st.sameButNew ({ t with vm := st.vm } : State) Lc mc ms ∧ ∀ q ∈ Lc, A q.base) := by
  refine MetFree.of_bodyS (code := mm_cb k) (maxLocals := mm_ml k) (ret := mm_rt k) hk.1 ?_ ?_
  · intro args s m hpre hn
    obtain ⟨meth, c, a1, a2, a3, a4, a5, a6, -⟩ := hk.2 args s m (fun w hw => atoms_spec (ws := mm_tb) hpre w hw) hn
    exact ⟨meth, c, a1, a2, a3, a4, a5, a6⟩
  · intro p e s m args below meth c s₁ B hml hp _
    obtain ⟨rfl, hK, hP, hD, hA, hF⟩ := hp
    have hts : ∀ w ∈ mm_tb, w.before avr.toArray s = true := fun w hw => atoms_spec (ws := mm_tb) B.pre w hw
    obtain ⟨meth', c', a1, a2, a3, a4, a5, a6, a7, a8⟩ := hk.2 _ s m hts B.named
    cases B.method.symm.trans a1
    have Y := Stand.of_body B
    cases Y.code.symm.trans a2
    have hh0 : s₁.heap = s.heap := by rw [B.state]; rfl
    have hcx : mm_Cx l k d X φ p e (mm_rm d mc ms) s m avr.toArray meth c D A cI cL :=
      ⟨B.exec, B.bytes, hml, B.returns, B.notSynchronized, findClass_of_methodNamed B.named, hts, hK, hA, hF, Nat.le_refl _, Nat.le_refl _, a8, a7, htr⟩
    have hrun := h hcx (below := below) (cells := 0) (slots := 0) (locs := []) hW hP hD (va_S.rf (A := A)) (mm_entry hv (by rw [mm_sl_len hv]; exact hcat)) (st := []) trivial (by simp [mm_rm]) (by simp [mm_rm])
    rw [← lg_entry_eq] at hrun
    obtain ⟨t, b1, ro, δ, ws', Lc, c1, c2, c3, c4, c5, c6, c7, c8, c9⟩ := hrun s₁ hh0 Y
    rw [Nat.zero_add, Nat.zero_add] at c8
    exact ⟨t, ro, b1, c1, c2, ⟨δ, ws', c3, c4, c5, ⟨c6.1, c6.2.1⟩, c9⟩, Lc, c7, c8, c6.2.2⟩
/-- a method that answers: the kit's contract -/
theorem mm_met {l : Launch} {X : Nat × (Nat → Int32)} {k d : Nat} {as : List Value} {σ σ' : mm_S} {mc ms : Nat} {v : Option Value} (hk : mm_is k) (hcat : (as.map fun v => v.category).sum ≤ mm_ml k) (htr : ∀ e' : Env, l.admits e' → e'.platform.stackTraces = false)
    (h : mm_Call l X k d as σ mc ms (.inl v) σ') {φ ρ : List Nat} {D : va_G} {A : Nat → Prop} {cI cL : ClassId} {ws : va_W} {avr : List Value} (hv : mm_Vs φ ρ as avr) (hW : mm_W φ ρ cI cL σ ws) :
    Met l (mm_yn k) mm_tb (mm_rm d mc ms) (mm_P X φ D A cI cL ws avr) (mm_QO φ ρ D A cI cL (.inl v) σ') mc ms A := by
  intro p e ha hc hk0 s m args below hf happ hP hK
  obtain ⟨n, oc, q1, q2, q3, q4, Lc, q5, q6, q7⟩ := mm_free hk hcat htr h hv hW p e ha hc hk0 s m args below hf happ hP hK
  refine ⟨n, oc, q1, q2, q3, q4, Lc, ⟨?_, q5, q6⟩, q7⟩
  obtain ⟨δ, ws', -, -, -, -, vr, hvr, -⟩ := q4
  exact ⟨vr, hvr⟩
section MMC
variable {l : Launch} {X : Nat × (Nat → Int32)} {k d pc : Nat} {L S : List Value} {σ σ1 σ' : mm_S} {mc ms mc1 ms1 : Nat} {o : mm_O}
theorem mm_goes {p : Program} {e : Env} {R : Room} {s : State} {m : MethodId} {args : Array Value} {below : List Frame} {meth : Method} {c : Code} {D : va_G} {A : Nat → Prop} {cI cL : ClassId} {φ ρ : List Nat} {H : Heap} {locs : List Loc} {cells slots : Nat} {ls : Array Slot} {st0 rest : List Value} {v : Option Value} {a : Array Value} {Q : State → Prop}
    (hr : va_Run p l e R s m args below meth c H locs cells slots mc1 ms1 (F0 m pc ls st0) rest (mm_QO φ ρ D A cI cL (.inl v) σ1 a) A) (hS : va_S A s.heap H locs)
    (kk : ∀ δ ws' H1 locs1 vr, mm_W φ (ρ ++ δ) cI cL σ1 ws' → va_P D mm_cl ws' H1 → va_D A ws' → va_S A s.heap H1 locs1 → mm_Vo φ (ρ ++ δ) v vr → W p l e R s m args below meth c H1 locs1 (cells + mc1) (slots + ms1) Q (F0 m (pc + 3) ls (vr.toList ++ rest))) :
    W p l e R s m args below meth c H locs cells slots Q (F0 m pc ls st0) := by
  intro T hT Y
  obtain ⟨v0, st₀, t, T', Lc, z0, Y', z1, z2, z3, ⟨δ, ws', w1, w2, w3, w4, vr, w5, w6⟩, z4⟩ := hr T hT Y
  cases w5
  obtain ⟨w7, w8⟩ := w4
  rw [z0] at w7 w8
  have hS' : va_S A s.heap T'.heap (locs ++ Lc) := ⟨Nat.le_trans hS.1 (by rw [z2]; exact w7), fun q h1 h2 => by rw [z2, w8 q (Nat.lt_of_lt_of_le h1 hS.1) h2]; exact hS.2.1 q h1 h2, fun q hq => by
    rcases List.mem_append.mp hq with hq | hq
    · exact hS.2.2 q hq
    · exact z1 q hq⟩
  obtain ⟨tt, y1, y2⟩ := kk δ ws' T'.heap (locs ++ Lc) v0 w1 (by rw [z2]; exact w2) w3 hS' w6 T' rfl Y'
  exact ⟨tt, z4 tt y1, y2⟩
def mm_okm (k' n : Nat) : Prop := Cond.code (mm_yn k') (mm_cb k') (mm_ml k') (mm_rt k') ∈ mm_tb ∧ Cond.initialized (mm_yn k').cls ∈ mm_tb ∧ (mm_yn k').cls ≠ "java/lang/invoke/MethodHandle" ∧ (mm_yn k').cls ≠ "java/lang/invoke/VarHandle" ∧
  (parseMethodDescriptor (mm_yn k').desc).map (fun d => d.parameters.length) = some n ∧ mm_ml k' ≤ 60 ∧ mm_is k'
theorem mm_callB {p : Program} {e : Env} {R : Room} {s : State} {m : MethodId} {args : Array Value} {meth : Method} {c : Code} {D : va_G} {A : Nat → Prop} {cI cL : ClassId} {φ : List Nat} {k' idx n : Nat} (hc : mm_Cx l k (d + 1) X φ p e R s m args meth c D A cI cL)
    (hm : mm_okm k' n) (hl : Cond.methodLink (mm_yn k).cls idx (mm_yn k') ∈ mm_tb) : CallB R s args (mm_yn k).cls idx (mm_yn k') (mm_cb k') (mm_ml k') (mm_rt k') mm_tb (mm_rm d mc1 ms1) mc1 ms1 n := by
  obtain ⟨a1, a2, a3, a4, a5, a6, a7, a8, a9, a10, a11, a12, a13⟩ := hc
  obtain ⟨m1, m2, m3, m4, m5, m6, -⟩ := hm
  refine ⟨rfl, rfl, by rw [mm_rm_f]; omega, by rw [mm_rm_l]; exact mm_ar m6 a12, fun w h a' U hU => mm_wm (List.mem_filter.mp h).2 hU (a7 w h), m1, a7 _ m1, a7 _ m2, ⟨m3, m4⟩, fun sig hs => ?_, a7 _ hl⟩
  rw [hs] at m5
  exact (Option.some.inj m5).symm
theorem mm_pre {p : Program} {e : Env} {R : Room} {s : State} {m : MethodId} {args : Array Value} {meth : Method} {c : Code} {D : va_G} {A : Nat → Prop} {cI cL : ClassId} {φ : List Nat} {ws : va_W} {avr : List Value} {H : Heap} {locs : List Loc} (hc : mm_Cx l k d X φ p e R s m args meth c D A cI cL)
    (hP : va_P D mm_cl ws H) (hD : va_D A ws) (hS : va_S A s.heap H locs) : PreS s H (mm_P X φ D A cI cL ws avr) avr := by
  obtain ⟨a1, a2, a3, a4, a5, a6, a7, a8, a9, a10, a11⟩ := hc
  refine ⟨mm_P.blind, fun U hU hWm => ⟨rfl, a8.moved hWm.alike, by rw [hU]; exact hP, hD, fun q hq => a9 q (Nat.le_trans hS.1 (by rw [← hU]; exact hq)), a10.move hS hWm.alike hU⟩⟩
theorem mm_callS {k' idx n : Nat} {as S0 : List Value} {v : Option Value} (hd : decode (mm_cb k) pc = .ok (.invokestatic idx, 3)) (hm : mm_okm k' n) (hl : Cond.methodLink (mm_yn k).cls idx (mm_yn k') ∈ mm_tb) (hs : Cond.static (mm_yn k') ∈ mm_tb)
    (hst : S0 = as.reverse ++ S) (hn : as.length = n) (hcat : (as.map fun v => v.category).sum ≤ mm_ml k') (hw : (S.map fun v => v.category).sum ≤ 8)
    (hcall : mm_Call l X k' d as σ mc1 ms1 (.inl v) σ1) (hr : mm_Run l X k (d + 1) (pc + 3) L (v.toList ++ S) σ1 mc ms o σ') : mm_Run l X k (d + 1) pc L S0 σ (mc1 + mc) (ms1 + ms) o σ' := by
  intro p e R s m args below meth c D A cI cL φ hc H locs cells slots ρ ws ls st hW hP hD hS hL hV h1 h2
  subst hst
  obtain ⟨ar, rest, rfl, va1, va2⟩ := hV.split
  have hva := va1.rev
  rw [List.reverse_reverse] at hva
  have hM := mm_met (D := D) (A := A) hm.2.2.2.2.2.2 hcat hc.2.2.2.2.2.2.2.2.2.2.2.2.2.2 hcall hva hW
  refine mm_goes (va_runS ⟨hc.1, hc.2.1, hc.2.2.1, hc.2.2.2.2.2.1, hc.2.2.2.2.2.2.1⟩ hM ⟨mm_callB hc hm hl, hc.2.2.2.2.2.2.1 _ hs⟩ (mm_pre hc hP hD hS) rfl (by rw [hva.len, hn]) hL.1.1 (by rw [List.reverse_reverse]) (by rw [va2.cats]; simpa using hw) hd ⟨by omega, by omega⟩) hS ?_
  intro δ ws' H1 locs1 vr q1 q2 q3 q4 q5
  refine mm_Wmono (fun t h => h.ext (δ := δ) (by omega) (by omega)) (hr hc q1 q2 q3 q4 hL.mono ?_ (by omega) (by omega))
  cases v <;> cases vr <;> first | exact q5.elim | exact va2.mono | exact ⟨q5, va2.mono⟩
theorem mm_callV {k' idx n p0 ci : Nat} {rs : List Value} {as S0 : List Value} {v : Option Value} (hd : decode (mm_cb k) pc = .ok (.invokevirtual idx, 3)) (hm : mm_okm k' n) (hl : Cond.methodLink (mm_yn k).cls idx (mm_yn k') ∈ mm_tb) (hi : Cond.instanceMethod (mm_yn k') ∈ mm_tb)
    (hse : Cond.selects (mm_yn k').cls (mm_yn k') (mm_yn k') ∈ mm_tb) (hkd : mm_kd σ.1 p0 = (2, ci, rs)) (hci : ∃ T N, mm_cl[ci]? = some ((mm_yn k').cls, T, N))
    (hst : S0 = as.reverse ++ .ref p0 :: S) (hn : as.length = n) (hcat : ((Value.ref p0 :: as).map fun v => v.category).sum ≤ mm_ml k') (hw : (S.map fun v => v.category).sum ≤ 8)
    (hcall : mm_Call l X k' d (.ref p0 :: as) σ mc1 ms1 (.inl v) σ1) (hr : mm_Run l X k (d + 1) (pc + 3) L (v.toList ++ S) σ1 mc ms o σ') : mm_Run l X k (d + 1) pc L S0 σ (mc1 + mc) (ms1 + ms) o σ' := by
  intro p e R s m args below meth c D A cI cL φ hc H locs cells slots ρ ws ls st hW hP hD hS hL hV h1 h2
  subst hst
  obtain ⟨ar, rest, rfl, va1, va2⟩ := hV.split
  obtain ⟨_, rest, rfl, hb0, va2n⟩ := va2.cons
  obtain ⟨b, hb, rfl⟩ := id hb0
  have hva := va1.rev
  rw [List.reverse_reverse] at hva
  obtain ⟨E, g1, fs, e1, -⟩ := hW.get hkd (by simp) hb
  subst e1
  obtain ⟨T, N, hT⟩ := hci
  have hM := mm_met (D := D) (A := A) hm.2.2.2.2.2.2 hcat hc.2.2.2.2.2.2.2.2.2.2.2.2.2.2 hcall (avr := .ref b :: ar.reverse) ⟨hb0, hva⟩ hW
  have hpre := mm_pre (avr := .ref b :: ar.reverse) hc hP hD hS
  refine mm_goes (va_runV (C := (mm_yn k').cls) (b := b) ⟨hc.1, hc.2.1, hc.2.2.1, hc.2.2.2.2.2.1, hc.2.2.2.2.2.2.1⟩ hM ⟨mm_callB hc hm hl, hc.2.2.2.2.2.2.1 _ hi, hc.2.2.2.2.2.2.1 _ hse⟩ ⟨hpre.1, ?_, hpre.2⟩ rfl (by rw [hva.len, hn]) hL.1.1 (by rw [List.reverse_reverse]) (by rw [va2n.cats]; simpa using hw) hd ⟨by omega, by omega⟩) hS ?_
  · exact va_recv hc.2.2.2.2.2.2.2.1 hP hT g1
  intro δ ws' H1 locs1 vr q1 q2 q3 q4 q5
  refine mm_Wmono (fun t h => h.ext (δ := δ) (by omega) (by omega)) (hr hc q1 q2 q3 q4 hL.mono ?_ (by omega) (by omega))
  cases v <;> cases vr <;> first | exact q5.elim | exact va2n.mono | exact ⟨q5, va2n.mono⟩
theorem mm_callI {k' idx n p0 : Nat} {as S0 : List Value} (hd : decode (mm_cb k) pc = .ok (.invokespecial idx, 3)) (hm : mm_okm k' n) (hl : Cond.methodLink (mm_yn k).cls idx (mm_yn k') ∈ mm_tb) (hi : Cond.instanceMethod (mm_yn k') ∈ mm_tb)
    (hy : (mm_yn k').name = "<init>") (hrt : mm_rt k' = none) (hst : S0 = as.reverse ++ .ref p0 :: S) (hn : as.length = n) (hcat : ((Value.ref p0 :: as).map fun v => v.category).sum ≤ mm_ml k') (hw : (S.map fun v => v.category).sum ≤ 8)
    (hcall : mm_Call l X k' d (.ref p0 :: as) σ mc1 ms1 (.inl none) σ1) (hr : mm_Run l X k (d + 1) (pc + 3) L S σ1 mc ms o σ') : mm_Run l X k (d + 1) pc L S0 σ (mc1 + mc) (ms1 + ms) o σ' := by
  intro p e R s m args below meth c D A cI cL φ hc H locs cells slots ρ ws ls st hW hP hD hS hL hV h1 h2
  subst hst
  obtain ⟨ar, rest, rfl, va1, va2⟩ := hV.split
  obtain ⟨_, rest, rfl, hb0, va2n⟩ := va2.cons
  obtain ⟨b, hb, rfl⟩ := id hb0
  have hva := va1.rev
  rw [List.reverse_reverse] at hva
  have hM := mm_met (D := D) (A := A) hm.2.2.2.2.2.2 hcat hc.2.2.2.2.2.2.2.2.2.2.2.2.2.2 hcall (avr := .ref b :: ar.reverse) ⟨hb0, hva⟩ hW
  have hcb := mm_callB (mc1 := mc1) (ms1 := ms1) hc hm hl
  rw [hrt] at hcb
  refine mm_goes (va_runI (b := b) ⟨hc.1, hc.2.1, hc.2.2.1, hc.2.2.2.2.2.1, hc.2.2.2.2.2.2.1⟩ hM ⟨hcb, hy, hc.2.2.2.2.2.2.1 _ hi⟩ (mm_pre hc hP hD hS) rfl (by rw [hva.len, hn]) hL.1.1 (by rw [List.reverse_reverse]) (by rw [va2n.cats]; simpa using hw) hd ⟨by omega, by omega⟩) hS ?_
  intro δ ws' H1 locs1 vr q1 q2 q3 q4 q5
  refine mm_Wmono (fun t h => h.ext (δ := δ) (by omega) (by omega)) (hr hc q1 q2 q3 q4 hL.mono ?_ (by omega) (by omega))
  cases vr <;> first | exact q5.elim | exact va2n.mono
/-! private members of a nest mate -/
theorem mm_callBN {p : Program} {e : Env} {R : Room} {s : State} {m : MethodId} {args : Array Value} {meth : Method} {c : Code} {D : va_G} {A : Nat → Prop} {cI cL : ClassId} {φ : List Nat} {k' idx n : Nat} {host : String} (hc : mm_Cx l k (d + 1) X φ p e R s m args meth c D A cI cL)
    (hm : mm_okm k' n) (hl : Cond.methodLinkNest (mm_yn k).cls idx (mm_yn k') host ∈ mm_tb) : va_CN R s args (mm_yn k).cls idx (mm_yn k') host (mm_cb k') (mm_ml k') (mm_rt k') mm_tb (mm_rm d mc1 ms1) mc1 ms1 n := by
  obtain ⟨a1, a2, a3, a4, a5, a6, a7, a8, a9, a10, a11, a12, a13⟩ := hc
  obtain ⟨m1, m2, m3, m4, m5, m6, -⟩ := hm
  refine ⟨⟨rfl, rfl, by rw [mm_rm_f]; omega, by rw [mm_rm_l]; exact mm_ar m6 a12, fun w h a' U hU => mm_wm (List.mem_filter.mp h).2 hU (a7 w h), m1⟩, a7 _ m1, a7 _ m2, ⟨m3, m4⟩, fun sig hs => ?_, a7 _ hl⟩
  rw [hs] at m5
  exact (Option.some.inj m5).symm
theorem mm_callSN {k' idx n : Nat} {as S0 : List Value} {v : Option Value} {host : String} (hd : decode (mm_cb k) pc = .ok (.invokestatic idx, 3)) (hm : mm_okm k' n) (hl : Cond.methodLinkNest (mm_yn k).cls idx (mm_yn k') host ∈ mm_tb) (hs : Cond.static (mm_yn k') ∈ mm_tb)
    (hst : S0 = as.reverse ++ S) (hn : as.length = n) (hcat : (as.map fun v => v.category).sum ≤ mm_ml k') (hw : (S.map fun v => v.category).sum ≤ 8)
    (hcall : mm_Call l X k' d as σ mc1 ms1 (.inl v) σ1) (hr : mm_Run l X k (d + 1) (pc + 3) L (v.toList ++ S) σ1 mc ms o σ') : mm_Run l X k (d + 1) pc L S0 σ (mc1 + mc) (ms1 + ms) o σ' := by
  intro p e R s m args below meth c D A cI cL φ hc H locs cells slots ρ ws ls st hW hP hD hS hL hV h1 h2
  subst hst
  obtain ⟨ar, rest, rfl, va1, va2⟩ := hV.split
  have hva := va1.rev
  rw [List.reverse_reverse] at hva
  have hM := mm_met (D := D) (A := A) hm.2.2.2.2.2.2 hcat hc.2.2.2.2.2.2.2.2.2.2.2.2.2.2 hcall hva hW
  refine mm_goes (va_runSN ⟨hc.1, hc.2.1, hc.2.2.1, hc.2.2.2.2.2.1, hc.2.2.2.2.2.2.1⟩ hM ⟨mm_callBN hc hm hl, hc.2.2.2.2.2.2.1 _ hs, trivial⟩ (mm_pre hc hP hD hS) rfl (by rw [hva.len, hn]) hL.1.1 (by rw [List.reverse_reverse]) (by rw [va2.cats]; simpa using hw) hd ⟨by omega, by omega⟩) hS ?_
  intro δ ws' H1 locs1 vr q1 q2 q3 q4 q5
  refine mm_Wmono (fun t h => h.ext (δ := δ) (by omega) (by omega)) (hr hc q1 q2 q3 q4 hL.mono ?_ (by omega) (by omega))
  cases v <;> cases vr <;> first | exact q5.elim | exact va2.mono | exact ⟨q5, va2.mono⟩
end MMC
end
section
/-! ===== exceptions: thrown, handed on, caught (launches without stack traces) ===== -/
theorem mm_isRef {args : Array Value} {s : State} {C n d : String} {A : Nat → Prop} (h : va_Zq C n d A s s.heap) : (Cond.isRef (.static C n d)).before args s = true := by
  have key : ∀ v : Value, (v = .null ∨ ∃ t, v = .ref t) → va_Z C n d v A s s.heap → (Cond.isRef (.static C n d)).before args s = true := by
    intro v hv hz
    obtain ⟨cf, kf, fi, f, a, cell, h1, h2, h3, h4, h5, h6, h7, h8⟩ := hz
    have hev : (Term.static C n d).eval args s none [] s = some v := by
      simp [Term.eval, State.fieldNamed?, h1, h2, h4, h5, h6, h7]
    rcases hv with rfl | ⟨t, rfl⟩ <;> simp [Cond.before, Cond.holds, Cond.value, hev]
  rcases h with h | ⟨t, h⟩
  · exact key _ (Or.inl rfl) h
  · exact key _ (Or.inr ⟨t, rfl⟩) h
/-- the walk goes on as if it had begun here -/
theorem mm_rebase {p : Program} {l : Launch} {e : Env} {R : Room} {s : State} {m : MethodId} {args : Array Value} {below : List Frame} {meth : Method} {c : Code} {T : State} {locs : List Loc} {cells slots n1 n2 : Nat}
    (Y : Stand p l e R s m args below meth c T locs cells slots) (h1 : cells + n1 ≤ R.cells) (h2 : slots + n2 ≤ R.slots) :
    Stand p l e { R with cells := n1, slots := n2 } (T.setFrames (.invoking m args :: below)) m args below meth c T [] 0 0 := by
  obtain ⟨g₀, hfr⟩ := Y.frames_eq
  have hcur : T.cur < T.threads.size := State.cur_lt_of_frames hfr
  have hF : (T.setFrames (.invoking m args :: below)).frames = .invoking m args :: below := State.frames_setFrames _ hcur
  have hlim : e.platform.stackLimits (T.setFrames (.invoking m args :: below)).me = e.platform.stackLimits s.me := by rw [State.stackLimits_setFrames]; exact Y.limits
  have hbyt : (T.setFrames (.invoking m args :: below)).me.stackBytes = s.me.stackBytes := by rw [State.stackBytes_setFrames]; exact Y.bytes
  have hloc : (T.setFrames (.invoking m args :: below)).localsInUse = s.localsInUse := by
    rw [State.localsInUse_invoking hF (show (T.setFrames _).vm.method? m = some meth from Y.method') Y.code, State.localsInUse_invoking Y.frames Y.method Y.code]
  obtain ⟨th, hth, hthf⟩ := State.frames_cons hfr
  refine ⟨Y.admits, Y.cas, Y.clock, hF, ?_, ?_, Y.method', Y.code, Y.here, Y.tail, State.WarmedH.refl _, ?_, ?_, ?_⟩
  · have hr := Y.room
    have hcA := Y.cellsAbove h1
    have hsA := Y.slotsAbove h2
    have hbk := Y.book
    simp only [State.hasRoom, Bool.and_eq_true, decide_eq_true_eq] at hr ⊢
    refine ⟨⟨⟨⟨?_, ?_, ?_, ?_, ?_, ?_⟩, hcA⟩, hsA⟩, hbk⟩
    · rw [hloc]; exact hr.1.1.1.1
    · rw [hF, ← Y.frames]; exact hr.1.1.1.2.1
    · rw [hlim, hF, ← Y.frames]; exact hr.1.1.1.2.2.1
    · rw [hloc]; exact hr.1.1.1.2.2.2.1
    · rw [hloc, hlim]; exact hr.1.1.1.2.2.2.2.1
    · rw [hbyt]; exact hr.1.1.1.2.2.2.2.2
  · have hh := Y.hears
    rcases below with _ | ⟨y, r⟩
    · simp only [State.hears] at hh ⊢
      rw [show (T.setFrames _).vm = T.vm from rfl, Y.method']
      rw [Y.method] at hh
      exact hh
    · cases y
      case java g =>
        simp only [State.hears, State.code?_eq] at hh ⊢
        rw [show (T.setFrames _).vm = T.vm from rfl, Y.warmed.alike.method?]
        exact hh
      case native g => rfl
      case proc g => rfl
      all_goals
        simp only [State.hears] at hh ⊢
        rw [show (T.setFrames _).vm = T.vm from rfl, Y.method']
        rw [Y.method] at hh
        exact hh
  · rw [State.stackLimits_setFrames]
  · rw [State.stackBytes_setFrames]
  · have hq := (State.sameButNew.refl (T.setFrames (.invoking m args :: below)) (State.frames_cons hF).choose_spec.1).setFrames T.frames (State.cur_lt_of_frames hF)
    rw [State.setFrames_setFrames, State.setFrames_self hth] at hq
    exact hq
section MMT
variable {l : Launch} {X : Nat × (Nat → Int32)} {k d pc : Nat} {L S : List Value} {σ σ1 σ' : mm_S} {mc ms mc1 ms1 : Nat} {o : mm_O}
theorem mm_throw {E text : String} {ix isx ic : Nat} {names : List String} (hd0 : decode (mm_cb k) pc = .ok (.new ix, 3)) (hd3 : decode (mm_cb k) (pc + 3) = .ok (.dup, 1)) (hd4 : decode (mm_cb k) (pc + 4) = .ok (.ldc isx, 2)) (hd6 : decode (mm_cb k) (pc + 6) = .ok (.invokespecial ic, 3)) (hd9 : decode (mm_cb k) (pc + 9) = .ok (.athrow, 1))
    (w1 : Cond.classLink (mm_yn k).cls ix E ∈ mm_tb) (w2 : Cond.instantiable E 6 ∈ mm_tb) (w3 : Cond.initialized E ∈ mm_tb) (w4 : Cond.stringRef (mm_yn k).cls isx text ∈ mm_tb)
    (w5 : ∀ w ∈ Bundle.ownAtoms (mm_yn k).cls ic E names, w ∈ mm_tb ∨ w = .isRef (.static Bundle.tN "UNASSIGNED_STACK" Bundle.steD) ∨ w = .isRef (.static Bundle.tN "SUPPRESSED_SENTINEL" Bundle.listD) ∨ w = .laysStatic Bundle.tN "UNASSIGNED_STACK" Bundle.steD ∨ w = .laysStatic Bundle.tN "SUPPRESSED_SENTINEL" Bundle.listD)
    (hE : Bundle.fit E = true) (hN : ∀ n ∈ names, Bundle.fit n = true) (hl : names.length ≤ 4) (hh : mm_ht k = []) : mm_Run l X k d pc L [] σ 1 6 (.inr E) σ := by
  intro p e R s m args below meth c D A cI cL φ hc H locs cells slots ρ ws ls st hW hP hD hS hL hV h1 h2
  cases st with
  | cons _ _ => exact hV.elim
  | nil =>
  intro T hT Y
  have Y0 := mm_rebase Y h1 h2
  generalize hs0 : T.setFrames (.invoking m args :: below) = s0 at Y0
  have hheap0 : s0.heap = H := by rw [← hs0]; exact hT
  have hvm0 : s0.vm = T.vm := by rw [← hs0]; rfl
  have hts : ∀ w ∈ mm_tb, w.before args s0 = true := fun w h => mm_wm (List.mem_filter.mp h).2 (by rw [hvm0]; exact Y.warmed) (hc.2.2.2.2.2.2.1 w h)
  have hal : s.vm.Alike s0.vm := by rw [hvm0]; exact Y.warmed.alike
  have hown : s0.vm.findClass (mm_yn k).cls = some m.cls := by rw [hal.findClass]; exact hc.2.2.2.2.2.1
  have hz := (hc.2.2.2.2.2.2.2.2.2.1).move hS hal hheap0
  have hb := hc.2.1
  have htab : c.exceptionTable.toList = [] := by
    have := hc.2.2.2.2.2.2.2.2.2.2.2.2.2.1
    rw [hh] at this
    simpa using this
  have key : W p l e { R with cells := 1, slots := 6 } s0 m args below meth c H [] 0 0 (fun U => U.status = .running ∧ Ended U below (.threw H.size) ∧ s0.WarmedH U.vm ∧ s0.sameButNew ({ U with vm := s0.vm } : State) [] 1 6 ∧ ∃ ce, U.heap[H.size]? = some ce ∧ ce.vm = .none ∧ s0.vm.findClass E = some ce.cls) (F0 m pc ls []) := by
    refine W.newc (n := 6) hc.1 hb hown (hts _ w1) (hts _ w2) (hts _ w3) rfl hd0 (Nat.le_refl _) (Nat.le_refl _) fun cC kC f1 f2 f3 f4 => ?_
    refine lv_dup hc.1 hb hd3 rfl ?_
    intro T1 hT1 Y1
    obtain ⟨kk, cf, i, a', -, -, -, -, -, hev⟩ := Cond.stringRef_spec hown (hts _ w4)
    have st1 := Y1.ldcString hc.1 hown (hts _ w4) hev (g := F0 m (pc + 3 + 1) ls (.ref H.size :: .ref H.size :: [])) rfl (by rw [hb]; exact hd4)
    obtain ⟨U, u1, u2, u3, u4, u5, ce, u6, u7⟩ := Y1.ctorThrowS hc.1 (hc.2.2.2.2.2.2.2.2.2.2.2.2.2.2 e Y.admits) (own := (mm_yn k).cls) (cls := E) (names := names) (ic := ic) hown hE hN
      (fun w hw => by
        rcases w5 w hw with h | rfl | rfl | rfl | rfl
        · exact hts _ h
        · exact mm_isRef hz.2.2.2.1
        · exact mm_isRef hz.2.2.2.2.1
        · exact hz.2.2.2.2.2.2.1.use
        · exact hz.2.2.2.2.2.2.2.use)
      (fun x hx => by cases hx)
      (a := H.size) f1 f2 (by rw [hT1]; simp) (by rw [hheap0]; exact Nat.le_refl _) (msg := .ref a') rfl (g := F0 m (pc + 6) ls (.ref a' :: .ref H.size :: .ref H.size :: [])) rfl (hL.1.1.trans hc.2.2.1.symm) rfl rfl rfl (by rw [hb]; exact hd6) (by rw [hb]; exact hd9) (by rw [htab]; intro x hx; cases hx)
      (by have := hc.2.2.2.2.2.2.2.2.2.2.1; show _ < R.frames; omega) (by have := hc.2.2.2.2.2.2.2.2.2.2.2.1; show _ ≤ R.locals; simp [Value.category]; omega) hc.2.2.2.2.1
    exact ⟨U, st1 U u1, u2, u3, u4, u5, ce, u6, u7.vm, u7.cls⟩
  obtain ⟨U, u1, u2, u3, u4, u5, ce, u6, u7, u8⟩ := key T hT Y0
  have hsame : s.sameButNew ({ U with vm := s.vm } : State) locs (cells + 1) (slots + 6) := by
    have q1 : T.sameButNew ({ U with vm := T.vm } : State) [] 1 6 := by
      obtain ⟨e1, e2⟩ := u5
      subst hs0
      rw [State.setFrames_setFrames] at e1
      exact ⟨e1, e2⟩
    have q2 := Y.same.trans (q1.setVm s.vm)
    rw [List.append_nil] at q2
    exact q2
  have hkeep : ∀ q, q < H.size → U.heap[q]? = H[q]? := by
    intro q hq
    obtain ⟨c', c1, c2, c3, c4⟩ := u5.2.2.2.2.2 q _ (by rw [hheap0]; exact Array.getElem?_eq_getElem hq)
    have c1' : U.heap[q]? = some c' := c1
    rw [c1', Array.getElem?_eq_getElem hq]
    congr 1
    rw [c2]
    have : c'.slots = (H[q]).slots := by
      apply Array.ext_getElem?
      intro i
      exact c4 i (by simp)
    rw [this]
  have hsz : H.size ≤ U.heap.size := by have := u5.2.1; rw [hheap0] at this; exact this
  refine ⟨U, u1, .threw H.size, [], ws, locs, u2, u3, ?_, ?_, hD, ?_, ?_, hsame, H.size, ce, rfl, u6, u7, ?_⟩
  · rw [List.append_nil]; exact hW
  · intro i q hq
    exact (hP i q hq).kept (hkeep _ (hP i q hq).lt)
  · exact ⟨Nat.le_trans hS.1 hsz, fun q q1 q2 => by rw [hkeep q (Nat.lt_of_lt_of_le q1 hS.1)]; exact hS.2.1 q q1 q2, hS.2.2⟩
  · have : T.WarmedH U.vm := by subst hs0; exact u4
    exact State.WarmedH.trans Y.warmed this
  · rw [← hal.findClass]; exact u8
end MMT
end
section
/-! ===== calls that throw: handed on; caught ===== -/
section MMH
variable {l : Launch} {X : Nat × (Nat → Int32)} {k d pc : Nat} {L S : List Value} {σ σ1 σ' : mm_S} {mc ms mc1 ms1 : Nat} {o : mm_O}
def mm_PreT (R : Room) (mc ms : Nat) (Pc : Array Value → State → Prop) : Pt → Array Value → Prop := fun B a => B.cells + mc ≤ R.cells ∧ B.slots + ms ≤ R.slots ∧ Pc a B.U
def mm_PostT (Qc : Array Value → State → Outcome → State → Prop) (mc ms : Nat) (free : Addr → Prop) : Pt → Array Value → Addr → Pt → Prop := fun B a x C =>
  ∃ (g : JFrame) (mk : MethodId) (t : State) (Lc : List Loc), C.U.heap = t.heap ∧ C.U.vm = t.vm ∧ Qc a (B.U.calling g mk a) (.threw x) t ∧ C.locs = B.locs ++ Lc ∧ (∀ q ∈ Lc, free q.base) ∧ C.cells = B.cells + mc ∧ C.slots = B.slots + ms
theorem mm_backT {p : Program} {e : Env} {R : Room} {s : State} {m : MethodId} {args : Array Value} {below : List Frame} {meth : Method} {c : Code} {D : va_G} {A : Nat → Prop} {cI cL : ClassId} {φ ρ : List Nat} {k' n : Nat} {as avr : List Value} {ws : va_W} {E : String}
    (hc : mm_Cx l k (d + 1) X φ p e R s m args meth c D A cI cL) (hm : mm_okm k' n) (hcat : (as.map fun v => v.category).sum ≤ mm_ml k') (hcall : mm_Call l X k' d as σ mc1 ms1 (.inr E) σ1) (hv : mm_Vs φ ρ as avr) (hW : mm_W φ ρ cI cL σ ws) :
    BackT l R p e below s args (mm_yn k') 3 8 (mm_PreT R mc1 ms1 (mm_P X φ D A cI cL ws avr)) (mm_PostT (mm_QO φ ρ D A cI cL (.inr E) σ1) mc1 ms1 A) := by
  obtain ⟨m1, m2, m3, m4, m5, m6, m7⟩ := hm
  obtain ⟨a1, a2, a3, a4, a5, a6, a7, a8, a9, a10, a11, a12, a13, a14, a15⟩ := hc
  have hM := mm_free (D := D) (A := A) m7 hcat a15 hcall hv hW
  have hwd : ∀ w ∈ mm_tb, ∀ (a' : Array Value) (U : State), s.WarmedH U.vm → w.before a' U = true := fun w h a' U hU => mm_wm (List.mem_filter.mp h).2 hU (a7 w h)
  refine BackT.of_free (bytes := mm_cb k') (maxL := mm_ml k') (ret := mm_rt k') (E := fun _ _ _ _ Lc k n => k = mc1 ∧ n = ms1 ∧ ∀ q ∈ Lc, A q.base) hM (by show (mm_rm d mc1 ms1).frames + 1 ≤ _; rw [mm_rm_f]; omega) (by show 8 + (mm_ml k' + 11) + (mm_rm d mc1 ms1).locals ≤ _; rw [mm_rm_l]; exact mm_ar m6 a12) ?_ ?_ (fun _ _ _ _ _ _ _ _ _ => trivial) ?_ ?_
  · intro m meth c B a Y hp
    exact ⟨atoms_intro fun w hw => hwd w hw _ _ Y.warmed, hwd _ m1 _ _ Y.warmed, hwd _ m2 _ _ Y.warmed, hp.1, hp.2.1⟩
  · intro m meth c B a g mk Y hp
    exact mm_P.blind _ _ _ _ hp.2.2
  · intro a st oc t ⟨q, Lc, z1, z2, z3⟩
    refine ⟨Lc, mc1, ms1, ⟨?_, z1, z2⟩, rfl, rfl, z3⟩
    obtain ⟨δ, ws', -, -, -, -, x, ce, hx, -⟩ := q
    exact ⟨x, hx⟩
  · intro m meth c B a g mk v t Lc kc n Y hp hq hF ⟨e1, e2, e3⟩
    subst e1; subst e2
    exact ⟨g, mk, t, Lc, rfl, rfl, hq.1, rfl, e3, rfl, rfl⟩
/-- the state behind a call that has thrown -/
def mm_Thrown (l : Launch) (X : Nat × (Nat → Int32)) (k d pc : Nat) (L S : List Value) (σ : mm_S) (mc ms : Nat) (E : String) (σ1 : mm_S) : Prop :=
  ∀ ⦃p : Program⦄ ⦃e : Env⦄ ⦃R : Room⦄ ⦃s : State⦄ ⦃m : MethodId⦄ ⦃args : Array Value⦄ ⦃below : List Frame⦄ ⦃meth : Method⦄ ⦃c : Code⦄ ⦃D : va_G⦄ ⦃A : Nat → Prop⦄ ⦃cI cL : ClassId⦄ ⦃φ : List Nat⦄,
    mm_Cx l k d X φ p e R s m args meth c D A cI cL →
    ∀ ⦃H : Heap⦄ ⦃locs : List Loc⦄ ⦃cells slots : Nat⦄ ⦃ρ : List Nat⦄ ⦃ws : va_W⦄ ⦃ls : Array Slot⦄ ⦃st : List Value⦄,
      mm_W φ ρ cI cL σ ws → va_P D mm_cl ws H → va_D A ws → va_S A s.heap H locs → mm_L φ ρ L ls (mm_ml k) → mm_Vs φ ρ S st → cells + mc ≤ R.cells → slots + ms ≤ R.slots →
      ∀ T : State, T.heap = H → Stand p l e R s m args below meth c T locs cells slots →
        ∃ (x : Addr) (T' : State) (locs' : List Loc) (δ : List Nat) (ws' : va_W) (ce : Cell) (rest : List Value), Stand p l e R s m args below meth c T' locs' (cells + mc) (slots + ms) ∧ mm_W φ (ρ ++ δ) cI cL σ1 ws' ∧ va_P D mm_cl ws' T'.heap ∧ va_D A ws' ∧ va_S A s.heap T'.heap locs' ∧
          T'.heap[x]? = some ce ∧ ce.vm = .none ∧ s.vm.findClass E = some ce.cls ∧ Steps p.tables e below (T.setTop (F0 m pc ls st)) ((T'.setTop (F0 m pc ls rest)).pushFrame (.throwing x))
theorem mm_thrown_out {E : String} (h : mm_Thrown l X k d pc L S σ mc ms E σ1) (hh : mm_ht k = []) : mm_Run l X k d pc L S σ mc ms (.inr E) σ1 := by
  intro p e R s m args below meth c D A cI cL φ hc H locs cells slots ρ ws ls st hW hP hD hS hL hV h1 h2 T hT Y
  obtain ⟨x, T', locs', δ, ws', ce, rest, Y', q1, q2, q3, q4, q5, q6, q7, q8⟩ := h hc hW hP hD hS hL hV h1 h2 T hT Y
  have htab : c.exceptionTable.toList = [] := by
    have := hc.2.2.2.2.2.2.2.2.2.2.2.2.2.1
    rw [hh] at this
    simpa using this
  obtain ⟨z1, z2, z3, z4, z5⟩ := Y'.leaveThrown x (g := F0 m pc ls rest) rfl rfl rfl (by rw [htab]; intro y hy; cases hy) hc.2.2.2.2.1
  exact ⟨_, q8.trans z1, .threw x, δ, ws', locs', z2, z3, q1, q2, q3, q4, z4, z5, x, ce, rfl, q5, q6, q7⟩
theorem mm_callST {k' idx n : Nat} {as S0 : List Value} {E : String} (hd : decode (mm_cb k) pc = .ok (.invokestatic idx, 3)) (hm : mm_okm k' n) (hl : Cond.methodLink (mm_yn k).cls idx (mm_yn k') ∈ mm_tb) (hs : Cond.static (mm_yn k') ∈ mm_tb)
    (hst : S0 = as.reverse ++ S) (hn : as.length = n) (hcat : (as.map fun v => v.category).sum ≤ mm_ml k') (hw : (S.map fun v => v.category).sum ≤ 8)
    (hcall : mm_Call l X k' d as σ mc ms (.inr E) σ1) : mm_Thrown l X k (d + 1) pc L S0 σ mc ms E σ1 := by
  intro p e R s m args below meth c D A cI cL φ hc H locs cells slots ρ ws ls st hW hP hD hS hL hV h1 h2 T hT Y
  subst hst
  obtain ⟨ar, rest, rfl, va1, va2⟩ := hV.split
  have hva := va1.rev
  rw [List.reverse_reverse] at hva
  have hK := mm_backT (below := below) hc hm hcat hcall hva hW
  have hts := hc.2.2.2.2.2.2.1
  obtain ⟨m1, m2, m3, m4, m5, m6, m7⟩ := id hm
  obtain ⟨mk, hnamed⟩ := Cond.code_named (hts _ m1)
  obtain ⟨methM, cM, hmethM, -, -, -, -, -, -, hsigM⟩ := Cond.code_spec hnamed (hts _ m1)
  have hpre := mm_pre (avr := ar.reverse) hc hP hD hS
  obtain ⟨x, vm₁, B, hW₁, Y', ⟨g', mk', t, Lc, b1, b2, ⟨δ, ws', w1, w2, w3, w4, x', ce, w5, w6, w7, w8⟩, b3, b4, b5, b6⟩, hst⟩ :=
    Y.staticThrows hc.1 hc.2.2.2.2.2.1 (hts _ hl) (hts _ hs) (hts _ m2) hnamed hmethM hsigM ⟨m3, m4⟩ hK (g := F0 m pc ls (ar ++ rest)) rfl (hL.1.1.trans hc.2.2.1.symm) (Steps.refl _) (argsL := ar.reverse) (rest := rest)
      (fun sig hsig => by rw [hva.len, hn]; rw [hsig] at m5; exact (Option.some.inj m5).symm) (by rw [List.reverse_reverse]) (by show 2 * 0 + _ ≤ 8; rw [va2.cats]; simpa using hw) (by rw [hc.2.1]; exact hd)
      (fun vm₁ hW₁ => ⟨h1, h2, hpre.2 (T.setVm vm₁) hT hW₁⟩)
  cases w5
  obtain ⟨w9, w10⟩ := w4
  have hTh : ((T.setVm vm₁).calling g' mk' ar.reverse.toArray).heap = H := hT
  have w8' : s.vm.findClass E = some ce.cls := by
    have : ((T.setVm vm₁).calling g' mk' ar.reverse.toArray).vm.findClass E = some ce.cls := w8
    rw [show ((T.setVm vm₁).calling g' mk' ar.reverse.toArray).vm = vm₁ from rfl] at this
    rw [← hW₁.alike.findClass]; exact this
  simp only [Pt.U, Pt.locs, Pt.cells, Pt.slots] at b1 b2 b3 b5 b6 Y' hst w9 w10
  rw [hTh] at w9 w10
  refine ⟨x, B.1, locs ++ Lc, δ, ws', ce, rest, ?_, w1, by rw [b1]; exact w2, w3, ?_, by rw [b1]; exact w6, w7, w8', hst⟩
  · rw [← b3, ← b5, ← b6]; exact Y'
  · exact ⟨Nat.le_trans hS.1 (by rw [b1]; exact w9), fun q q1 q2 => by rw [b1, w10 q (Nat.lt_of_lt_of_le q1 hS.1) q2]; exact hS.2.1 q q1 q2, fun q hq => by
      rcases List.mem_append.mp hq with hq | hq
      · exact hS.2.2 q hq
      · exact b4 q hq⟩
theorem mm_callVT {k' idx n p0 ci : Nat} {rs : List Value} {as S0 : List Value} {E : String} (hd : decode (mm_cb k) pc = .ok (.invokevirtual idx, 3)) (hm : mm_okm k' n) (hl : Cond.methodLink (mm_yn k).cls idx (mm_yn k') ∈ mm_tb) (hi : Cond.instanceMethod (mm_yn k') ∈ mm_tb)
    (hse : Cond.selects (mm_yn k').cls (mm_yn k') (mm_yn k') ∈ mm_tb) (hkd : mm_kd σ.1 p0 = (2, ci, rs)) (hci : ∃ T N, mm_cl[ci]? = some ((mm_yn k').cls, T, N))
    (hst : S0 = as.reverse ++ .ref p0 :: S) (hn : as.length = n) (hcat : ((Value.ref p0 :: as).map fun v => v.category).sum ≤ mm_ml k') (hw : (S.map fun v => v.category).sum ≤ 8)
    (hcall : mm_Call l X k' d (.ref p0 :: as) σ mc ms (.inr E) σ1) : mm_Thrown l X k (d + 1) pc L S0 σ mc ms E σ1 := by
  intro p e R s m args below meth c D A cI cL φ hc H locs cells slots ρ ws ls st hW hP hD hS hL hV h1 h2 T hT Y
  subst hst
  obtain ⟨ar, rest0, rfl, va1, va2⟩ := hV.split
  obtain ⟨_, rest, rfl, hb0, va2n⟩ := va2.cons
  obtain ⟨b, hb, rfl⟩ := id hb0
  have hva := va1.rev
  rw [List.reverse_reverse] at hva
  obtain ⟨Ec, g1, fs, e1, -⟩ := hW.get hkd (by simp) hb
  subst e1
  obtain ⟨TT, N, hTT⟩ := hci
  obtain ⟨cellB, hcB, hoB, hclB⟩ := va_recv hc.2.2.2.2.2.2.2.1 hP hTT g1
  have hK := mm_backT (below := below) hc hm hcat hcall (avr := .ref b :: ar.reverse) ⟨hb0, hva⟩ hW
  have hts := hc.2.2.2.2.2.2.1
  obtain ⟨m1, m2, m3, m4, m5, m6, m7⟩ := id hm
  have hpre := mm_pre (avr := .ref b :: ar.reverse) hc hP hD hS
  obtain ⟨mk, methM, hnamed, hmethM, hstM, habM⟩ := Cond.instanceMethod_spec (hts _ hi)
  obtain ⟨methM', cM, hmethM', -, -, -, -, -, -, hsigM⟩ := Cond.code_spec hnamed (hts _ m1)
  cases hmethM.symm.trans hmethM'
  obtain ⟨c2, r2, m2', q1, q2, q3, q4, kP, hkP, hkPi⟩ := Cond.selects_spec (hts _ hse)
  cases hclB.symm.trans q1
  cases (State.methodFound?_of_named hnamed ⟨m3, m4⟩).symm.trans q2
  cases hnamed.symm.trans q3
  have hselP : selectMethod e.platform s.vm cellB.cls mk = .method mk := by rw [Launch.admits_selectMethod Y.admits]; exact q4
  have hlen : ar.reverse.length = methM.sig.parameters.length := by
    rw [hva.len, hn]; rw [hsigM] at m5; exact (Option.some.inj m5).symm
  obtain ⟨vm₁, X₁, hstep₁⟩ := Y.invokevirtual hc.1 hc.2.2.2.2.2.1 (hts _ hl) hnamed hmethM hstM hkP hkPi ⟨m3, m4⟩ (a := b) (cell := cellB) (by rw [hT]; exact hcB)
    (fun z h => by rw [h] at hoB; cases hoB) hselP hmethM habM hkP hkPi (g := F0 m pc ls (ar ++ .ref b :: rest)) rfl (argsL := ar.reverse) (rest := rest) hlen (by rw [List.reverse_reverse]) (by rw [hc.2.1]; exact hd)
  obtain ⟨x, B, Y', ⟨g', mk', t, Lc, b1, b2, ⟨δ, ws', w1, w2, w3, w4, x', ce, w5, w6, w7, w8⟩, b3, b4, b5, b6⟩, hsteps⟩ :=
    hK m meth c ⟨T.setVm vm₁, locs, cells, slots⟩ (F0 m pc ls rest) (.invokevirtual idx) mk (Value.ref b :: ar.reverse).toArray X₁ rfl (hL.1.1.trans hc.2.2.1.symm) (by rw [hc.2.1]; exact hd) (by show 2 * 0 + _ ≤ 8; rw [va2n.cats]; simpa using hw) (X₁.named hnamed) ⟨h1, h2, hpre.2 (T.setVm vm₁) hT X₁.warmed⟩
  cases w5
  obtain ⟨w9, w10⟩ := w4
  have hTh : ((T.setVm vm₁).calling g' mk' (Value.ref b :: ar.reverse).toArray).heap = H := hT
  have w8' : s.vm.findClass E = some ce.cls := by
    have : ((T.setVm vm₁).calling g' mk' (Value.ref b :: ar.reverse).toArray).vm.findClass E = some ce.cls := w8
    rw [show ((T.setVm vm₁).calling g' mk' (Value.ref b :: ar.reverse).toArray).vm = vm₁ from rfl] at this
    rw [← X₁.warmed.alike.findClass]; exact this
  simp only [Pt.U, Pt.locs, Pt.cells, Pt.slots] at b1 b2 b3 b5 b6 Y' hsteps w9 w10
  rw [hTh] at w9 w10
  refine ⟨x, B.1, locs ++ Lc, δ, ws', ce, rest, ?_, w1, by rw [b1]; exact w2, w3, ?_, by rw [b1]; exact w6, w7, w8', ?_⟩
  · rw [← b3, ← b5, ← b6]; exact Y'
  · exact ⟨Nat.le_trans hS.1 (by rw [b1]; exact w9), fun q q1 q2 => by rw [b1, w10 q (Nat.lt_of_lt_of_le q1 hS.1) q2]; exact hS.2.1 q q1 q2, fun q hq => by
      rcases List.mem_append.mp hq with hq | hq
      · exact hS.2.2 q hq
      · exact b4 q hq⟩
  · exact hstep₁ _ fun acts => by rw [doInvoke_state]; exact hsteps
theorem mm_caught {i : Nat} {pre rest : List (Nat × Nat × Nat × Nat)} {sp ep hp ct : Nat} {mc2 ms2 : Nat} (h : mm_Thrown l X k d pc L S σ mc ms (mm_ex i) σ1) (hi : i < 3) (hsplit : mm_ht k = pre ++ (sp, ep, hp, ct) :: rest)
    (hpass : ∀ y ∈ pre, y.2.2.2 ≠ 0 ∧ ∃ j, j < 3 ∧ i ≠ j ∧ Cond.classLink (mm_yn k).cls y.2.2.2 (mm_ex j) ∈ mm_tb) (hx : sp ≤ pc ∧ pc < ep) (h0 : ct ≠ 0) (hlink : Cond.classLink (mm_yn k).cls ct (mm_ex i) ∈ mm_tb) (hcast : Cond.castable (mm_ex i) (mm_ex i) ∈ mm_tb)
    (hr : mm_Run l X k d hp L [.null] σ1 mc2 ms2 o σ') : mm_Run l X k d pc L S σ (mc + mc2) (ms + ms2) o σ' := by
  intro p e R s m args below meth c D A cI cL φ hc H locs cells slots ρ ws ls st hW hP hD hS hL hV h1 h2 T hT Y
  obtain ⟨x, T', locs', δ, ws', ce, rest', Y', q1, q2, q3, q4, q5, q6, q7, q8⟩ := h hc hW hP hD hS hL hV (by omega) (by omega) T hT Y
  have hts := hc.2.2.2.2.2.2.1
  have hown := hc.2.2.2.2.2.1
  have hpl : e.platform.magicAccessors = ({} : Platform).magicAccessors := by rw [Y.admits.platform]
  have htab := hc.2.2.2.2.2.2.2.2.2.2.2.2.2.1
  rw [hsplit] at htab
  obtain ⟨pre', l2, t1, t2, t3⟩ := List.map_eq_append_iff.mp htab
  obtain ⟨x0, rest0, t4, t5, t6⟩ := List.map_eq_cons_iff.mp t3
  subst t4
  have hself : s.vm.assignable ce.cls ce.cls = true := by
    obtain ⟨c1, c2, z1, z2, z3⟩ := Cond.castable_spec (hts _ hcast)
    cases q7.symm.trans z1
    cases q7.symm.trans z2
    exact z3
  have hx0 : x0.startPc = sp ∧ x0.endPc = ep ∧ x0.handlerPc = hp ∧ x0.catchType = ct := by
    simp only [Prod.mk.injEq] at t5
    exact t5
  obtain ⟨z1, z2⟩ := Y'.catches_of_link hown (x := x0) (by rw [hx0.2.2.2]; exact h0) (name := mm_ex i) (by rw [hx0.2.2.2]; exact hts _ hlink) q7 hself
  have hpa : ∀ y ∈ pre', RowPassed e.platform s m.cls (F0 m pc ls rest').pc ce.cls y := by
    intro y hy
    obtain ⟨y1, j, y2, y3, y4⟩ := hpass (y.startPc, y.endPc, y.handlerPc, y.catchType) (by rw [← t2]; exact List.mem_map_of_mem hy)
    obtain ⟨c', hc', hcl⟩ := Cond.classLink_spec hown (hts _ y4) e.platform hpl
    obtain ⟨cA, cB, n1, n2, n3⟩ := hc.2.2.2.2.2.2.2.2.2.1.2.2.2.2.2.1 i j hi y2 y3
    cases q7.symm.trans n1
    cases hc'.symm.trans n2
    exact Or.inr ⟨y1, c', hcl, n3⟩
  obtain ⟨vm', Y2, st2⟩ := Y'.thenCaughtThrough x (g := F0 m pc ls rest') rfl q8 q5 (by rw [q6]; rfl) z2 pre' x0 rest0 t1 hpa (by simp [covers, hx0.1, hx0.2.1, hx.1, hx.2]) z1
  have hgo := hr hc (H := T'.heap) (below := below) (cells := cells + mc) (slots := slots + ms) (st := [.ref x]) q1 q2 q3 q4 hL.mono ⟨⟨x, rfl⟩, trivial⟩ (by omega) (by omega)
  obtain ⟨tt, y1, y2⟩ := hgo (T'.setVm vm') rfl Y2
  refine ⟨tt, st2.trans ?_, mm_Q.ext (δ := δ) y2 (by omega) (by omega)⟩
  rw [hx0.2.2.1]
  exact y1
end MMH
end
section
/-! ===== constants, switches, making cells, constructors, methods with handlers ===== -/
section MMN
variable {l : Launch} {X : Nat × (Nat → Int32)} {k d pc : Nat} {L S : List Value} {σ σ1 σ' : mm_S} {mc ms mc1 ms1 : Nat} {o : mm_O}
theorem mm_ldc2 {idx : Nat} {v : Int64} (hd : decode (mm_cb k) pc = .ok (.ldc2_w idx, 3)) (hw : Cond.constantLong (mm_yn k).cls idx v ∈ mm_tb) (hr : mm_Run l X k d (pc + 3) L (.long v :: S) σ mc ms o σ') : mm_Run l X k d pc L S σ mc ms o σ' := by
  refine mm_simple (fun hc hL hS kk => ?_) hr
  exact W.ldc2 hc.1 hc.2.1 hc.2.2.2.2.2.1 (hc.2.2.2.2.2.2.1 _ hw) rfl hd (kk _ _ hL ⟨rfl, hS⟩)
theorem mm_tableIn {dflt lo hi : Int} {offs : Array Int} {len : Nat} {x : Int32} {off : Int} {tgt : Nat} (hd : decode (mm_cb k) pc = .ok (.tableswitch dflt lo hi offs, len)) (h1 : ¬ x.toInt < lo) (h2 : ¬ hi < x.toInt) (ho : offs[(x.toInt - lo).toNat]? = some off) (ht : (pc : Int) + off = (tgt : Int))
    (hr : mm_Run l X k d tgt L S σ mc ms o σ') : mm_Run l X k d pc L (.int x :: S) σ mc ms o σ' := by
  refine mm_simple (fun hc hL hS kk => ?_) hr
  obtain ⟨_, st, rfl, rfl, hS1⟩ := hS.cons
  exact lv_tableIn hc.1 hc.2.1 hd h1 h2 ho ht (kk _ _ hL hS1)
theorem mm_tableOut {dflt lo hi : Int} {offs : Array Int} {len : Nat} {x : Int32} {tgt : Nat} (hd : decode (mm_cb k) pc = .ok (.tableswitch dflt lo hi offs, len)) (h : x.toInt < lo ∨ hi < x.toInt) (ht : (pc : Int) + dflt = (tgt : Int))
    (hr : mm_Run l X k d tgt L S σ mc ms o σ') : mm_Run l X k d pc L (.int x :: S) σ mc ms o σ' := by
  refine mm_simple (fun hc hL hS kk => ?_) hr
  obtain ⟨_, st, rfl, rfl, hS1⟩ := hS.cons
  exact lv_tableOut hc.1 hc.2.1 hd h ht (kk _ _ hL hS1)
theorem mm_lookup {dflt : Int} {ps : Array (Int × Int)} {len : Nat} {x : Int32} {off : Int} {tgt : Nat} (hd : decode (mm_cb k) pc = .ok (.lookupswitch dflt ps, len)) (hp : (ps.toList.zip (ps.toList.drop 1)).all (fun (a, next) => a.1 < next.1) = true) (ho : Op.lookupswitch.offset ps.toList dflt x.toInt = off) (ht : (pc : Int) + off = (tgt : Int))
    (hr : mm_Run l X k d tgt L S σ mc ms o σ') : mm_Run l X k d pc L (.int x :: S) σ mc ms o σ' := by
  refine mm_simple (fun hc hL hS kk => ?_) hr
  obtain ⟨_, st, rfl, rfl, hS1⟩ := hS.cons
  exact lv_lookup hc.1 hc.2.1 hd hp ho ht (kk _ _ hL hS1)
/-! cells that are made -/
theorem mm_C.mono {φ ρ δ : List Nat} {cI cL : ClassId} {M : mm_M} {p : Nat} {kd : mm_K} {E : va_E} (h : mm_C φ ρ cI cL M p kd E) : mm_C φ (ρ ++ δ) cI cL M p kd E := by
  obtain ⟨t, n, rs⟩ := kd
  match t, h with
  | 0, h => exact h
  | 1, h => exact h
  | 2, h =>
    obtain ⟨fs, e, f1, f2⟩ := h
    refine ⟨fs, e, f1, fun j t ht => ?_⟩
    obtain ⟨w, g1, g2⟩ := f2 j t ht
    refine ⟨w, g1, ?_⟩
    match t, g2 with
    | 0, g2 => exact g2
    | 1, g2 => exact g2
    | t + 2, g2 => exact fun hn => (g2 hn).mono
  | t + 3, h => exact h.elim
theorem mm_W.push {φ ρ : List Nat} {cI cL : ClassId} {Λ : List mm_K} {M M' : mm_M} {ws : va_W} {q : Nat} {kd : mm_K} {E : va_E} (h : mm_W φ ρ cI cL (Λ, M) ws) (hoff : ∀ p, p ≠ Λ.length → M'.1 p = M.1 p ∧ M'.2 p = M.2 p) (hC : mm_C φ (ρ ++ [q]) cI cL M' Λ.length kd E) :
    mm_W φ (ρ ++ [q]) cI cL (Λ ++ [kd], M') (ws ++ [(q, E)]) := by
  obtain ⟨h1, h2, h3⟩ := h
  dsimp only at h1 h2 h3
  refine ⟨by simp [h1], by simp [h2], fun p kd1 hp => ?_⟩
  by_cases hlt : p < Λ.length
  · have hp' : Λ[p]? = some kd1 := by
      have : (Λ ++ [kd])[p]? = Λ[p]? := List.getElem?_append_left hlt
      exact this.symm.trans hp
    obtain ⟨a, E1, g1, g2, g3⟩ := h3 p kd1 hp'
    refine ⟨a, E1, ?_, ?_, (g3.off (hoff p (by omega)).1 (hoff p (by omega)).2).mono⟩
    · rw [List.getElem?_append_left (by omega)]; exact g1
    · rw [List.getElem?_append_left (by omega)]; exact g2
  · have hlen : p < (Λ ++ [kd]).length := (List.getElem?_eq_some_iff.mp hp).1
    have hpe : p = Λ.length := by simp at hlen; omega
    subst hpe
    have hk : kd1 = kd := by simpa using hp.symm
    subst hk
    exact ⟨q, E, by simp [← h2], by simp [← h1], hC⟩
theorem mm_row_ne {α : Type} {f : Nat → Nat → α} {p q : Nat} {g : Nat → α} (h : q ≠ p) : mm_row f p g q = f q := by
  funext j; simp [mm_row, h]
theorem mm_row_eq {α : Type} {f : Nat → Nat → α} {p : Nat} {g : Nat → α} : mm_row f p g p = g := by
  funext j; simp [mm_row]
theorem mm_newi {n : Int32} {N : Nat} (hd : decode (mm_cb k) pc = .ok (.newarray .int, 2)) (hw : Cond.arrayClass .int ∈ mm_tb) (hn : ¬ n < 0) (hN : n.toNatClampNeg = N) (hb : N ≤ 100000)
    (hr : mm_Run l X k d (pc + 2) L (.ref σ.1.length :: S) (σ.1 ++ [(0, N, [])], mm_row σ.2.1 σ.1.length (fun _ => 0), σ.2.2) mc ms o σ') : mm_Run l X k d pc L (.int n :: S) σ (1 + mc) (N + ms) o σ' := by
  intro pp e R s m args below meth c D A cI cL φ hc H locs cells slots ρ ws ls st hW hP hD hS hL hV h1 h2
  obtain ⟨_, st, rfl, rfl, hV1⟩ := hV.cons
  refine va_newa (atype := .int) (ty := .int) (a0 := (N, .inl (fun _ => 0))) hc.1 hc.2.1 (hc.2.2.2.2.2.2.1 _ hw) rfl hc.2.2.2.2.2.2.2.1 hP hD hS hc.2.2.2.2.2.2.2.2.1 (fun cA => rfl) hn hN (by show N * 4 ≤ 536870912; omega) (by omega) (by omega) hd ?_
  intro q cA H1 z1 z2 z3 z4
  have hcA : cA = cI := by
    have e1 := (z1.2 2 (cA, .int) rfl).2
    have e2 := (hc.2.2.2.2.2.2.2.1.2 0 (cI, .int) rfl).2
    exact Option.some.inj (e1.symm.trans e2)
  subst hcA
  refine mm_Wmono (fun t h => h.ext (δ := [q]) (by omega) (by omega)) (hr hc (hW.push (Λ := σ.1) (M := σ.2) (q := q) (fun p hp => ⟨mm_row_ne hp, rfl⟩) ?_) z2 z3 z4 hL.mono ⟨?_, hV1.mono⟩ (by omega) (by omega))
  · show _ = _
    simp only [mm_row_eq]
  · exact ⟨q, by simp [← hW.2.1], rfl⟩
theorem mm_newl {n : Int32} {N : Nat} (hd : decode (mm_cb k) pc = .ok (.newarray .long, 2)) (hw : Cond.arrayClass .long ∈ mm_tb) (hn : ¬ n < 0) (hN : n.toNatClampNeg = N) (hb : N ≤ 100000)
    (hr : mm_Run l X k d (pc + 2) L (.ref σ.1.length :: S) (σ.1 ++ [(1, N, [])], σ.2.1, mm_row σ.2.2 σ.1.length (fun _ => 0)) mc ms o σ') : mm_Run l X k d pc L (.int n :: S) σ (1 + mc) (N + ms) o σ' := by
  intro pp e R s m args below meth c D A cI cL φ hc H locs cells slots ρ ws ls st hW hP hD hS hL hV h1 h2
  obtain ⟨_, st, rfl, rfl, hV1⟩ := hV.cons
  refine va_newa (atype := .long) (ty := .long) (a0 := (N, .inr (.inl (fun _ => 0)))) hc.1 hc.2.1 (hc.2.2.2.2.2.2.1 _ hw) rfl hc.2.2.2.2.2.2.2.1 hP hD hS hc.2.2.2.2.2.2.2.2.1 (fun cA => rfl) hn hN (by show N * 8 ≤ 536870912; omega) (by omega) (by omega) hd ?_
  intro q cA H1 z1 z2 z3 z4
  have hcA : cA = cL := by
    have e1 := (z1.2 2 (cA, .long) rfl).2
    have e2 := (hc.2.2.2.2.2.2.2.1.2 1 (cL, .long) rfl).2
    exact Option.some.inj (e1.symm.trans e2)
  subst hcA
  refine mm_Wmono (fun t h => h.ext (δ := [q]) (by omega) (by omega)) (hr hc (hW.push (Λ := σ.1) (M := σ.2) (q := q) (fun p hp => ⟨rfl, mm_row_ne hp⟩) ?_) z2 z3 z4 hL.mono ⟨?_, hV1.mono⟩ (by omega) (by omega))
  · show _ = _
    simp only [mm_row_eq]
  · exact ⟨q, by simp [← hW.2.1], rfl⟩
theorem mm_nth_rep : ∀ (n j : Nat), mm_nth (List.replicate n .null) j = .null
  | 0, _ => rfl
  | _ + 1, 0 => rfl
  | n + 1, j + 1 => mm_nth_rep n j
def mm_df : Nat → Value
  | 0 => .int 0
  | 1 => .long 0
  | _ => .null
theorem mm_new {idx ci : Nat} {C : String} {T : u_T} {N : Nat} (hd : decode (mm_cb k) pc = .ok (.new idx, 3)) (hc0 : mm_okc ci) (hci : mm_cl[ci]? = some (C, T, N)) (w1 : Cond.classLink (mm_yn k).cls idx C ∈ mm_tb) (w2 : Cond.instantiable C N ∈ mm_tb) (w3 : Cond.initialized C ∈ mm_tb)
    (hr : mm_Run l X k d (pc + 3) L (.ref σ.1.length :: S) (σ.1 ++ [(2, ci, List.replicate N .null)], mm_row σ.2.1 σ.1.length (fun _ => 0), mm_row σ.2.2 σ.1.length (fun _ => 0)) mc ms o σ') : mm_Run l X k d pc L S σ (1 + mc) (N + ms) o σ' := by
  intro pp e R s m args below meth c D A cI cL φ hc H locs cells slots ρ ws ls st hW hP hD hS hL hV h1 h2
  have hts := hc.2.2.2.2.2.2.1
  obtain ⟨C', T', N', c1, c2, c3, ⟨ty0, c4⟩, c5⟩ := hc0
  cases Option.some.inj (c1.symm.trans hci)
  refine va_new (fs := (mm_fk ci).map mm_df) hc.1 hc.2.1 hts c3 ty0 (fun j hj => (c4 j hj).1) hc.2.2.2.2.2.1 (hts _ w1) (hts _ w2) (hts _ w3) hc.2.2.2.2.2.2.2.1 hP hD hS hc.2.2.2.2.2.2.2.2.1 hci (fun j hj => ?_) (by omega) (by omega) hd ?_
  · obtain ⟨-, h4, h5⟩ := c4 j hj
    unfold vp_V
    rw [List.getD_eq_getElem?_getD, List.getElem?_map, h4]
    generalize ty0 j = ty at h5
    cases ty <;> first | rfl | (exact absurd h5 (by simp [mm_tk]))
  intro q H1 z2 z3 z4
  refine mm_Wmono (fun t h => h.ext (δ := [q]) (by omega) (by omega)) (hr hc (hW.push (Λ := σ.1) (M := σ.2) (q := q) (fun p hp => ⟨mm_row_ne hp, mm_row_ne hp⟩) ?_) z2 z3 z4 hL.mono ⟨?_, hV.mono⟩ (by omega) (by omega))
  · refine ⟨_, rfl, by simp, fun j t ht => ⟨mm_df t, by simp [ht], ?_⟩⟩
    match t with
    | 0 => show Value.int 0 = .int (mm_row σ.2.1 σ.1.length (fun _ => 0) σ.1.length j); rw [mm_row_eq]
    | 1 => show Value.long 0 = .long (mm_row σ.2.2 σ.1.length (fun _ => 0) σ.1.length j); rw [mm_row_eq]
    | t + 2 =>
      intro hn
      exact absurd (mm_nth_rep N j) hn
  · exact ⟨q, by simp [← hW.2.1], rfl⟩
theorem mm_objinit {idx p0 : Nat} (hd : decode (mm_cb k) pc = .ok (.invokespecial idx, 3)) (w1 : Cond.methodLink (mm_yn k).cls idx Lib.objectInit ∈ mm_tb) (w2 : Cond.instanceMethod Lib.objectInit ∈ mm_tb) (w3 : Cond.code Lib.objectInit ⟨#[0xb1]⟩ 1 none ∈ mm_tb) (hw : (S.map fun v => v.category).sum ≤ 8)
    (hr : mm_Run l X k d (pc + 3) L S σ mc ms o σ') : mm_Run l X k d pc L (.ref p0 :: S) σ mc ms o σ' := by
  refine mm_simple (fun hc hL hS kk => ?_) hr
  obtain ⟨_, st, rfl, ⟨a, ha, rfl⟩, hS1⟩ := hS.cons
  have hts := hc.2.2.2.2.2.2.1
  refine W.objInit hc.1 hc.2.1 hc.2.2.2.2.2.1 (hts _ w1) (hts _ w2) (hts _ w3) rfl (hL.1.1.trans hc.2.2.1.symm) rfl hd (by have := hc.2.2.2.2.2.2.2.2.2.2.1; omega) ?_ (kk _ _ hL hS1)
  have := hc.2.2.2.2.2.2.2.2.2.2.2.1
  rw [hS1.cats]
  show 2 * 0 + _ + 12 ≤ _
  omega
theorem mm_callIN {k' idx n p0 : Nat} {as S0 : List Value} {host : String} (hd : decode (mm_cb k) pc = .ok (.invokespecial idx, 3)) (hm : mm_okm k' n) (hl : Cond.methodLinkNest (mm_yn k).cls idx (mm_yn k') host ∈ mm_tb) (hi : Cond.instanceMethod (mm_yn k') ∈ mm_tb)
    (hy : (mm_yn k').name = "<init>") (hrt : mm_rt k' = none) (hst : S0 = as.reverse ++ .ref p0 :: S) (hn : as.length = n) (hcat : ((Value.ref p0 :: as).map fun v => v.category).sum ≤ mm_ml k') (hw : (S.map fun v => v.category).sum ≤ 8)
    (hcall : mm_Call l X k' d (.ref p0 :: as) σ mc1 ms1 (.inl none) σ1) (hr : mm_Run l X k (d + 1) (pc + 3) L S σ1 mc ms o σ') : mm_Run l X k (d + 1) pc L S0 σ (mc1 + mc) (ms1 + ms) o σ' := by
  intro p e R s m args below meth c D A cI cL φ hc H locs cells slots ρ ws ls st hW hP hD hS hL hV h1 h2
  subst hst
  obtain ⟨ar, rest0, rfl, va1, va2⟩ := hV.split
  obtain ⟨_, rest, rfl, hb0, va2n⟩ := va2.cons
  obtain ⟨b, hb, rfl⟩ := id hb0
  have hva := va1.rev
  rw [List.reverse_reverse] at hva
  have hM := mm_met (D := D) (A := A) hm.2.2.2.2.2.2 hcat hc.2.2.2.2.2.2.2.2.2.2.2.2.2.2 hcall (avr := .ref b :: ar.reverse) ⟨hb0, hva⟩ hW
  have hcb := mm_callBN (mc1 := mc1) (ms1 := ms1) hc hm hl
  rw [hrt] at hcb
  refine mm_goes (va_runIN (b := b) ⟨hc.1, hc.2.1, hc.2.2.1, hc.2.2.2.2.2.1, hc.2.2.2.2.2.2.1⟩ hM ⟨hcb, hy, hc.2.2.2.2.2.2.1 _ hi⟩ (mm_pre hc hP hD hS) rfl (by rw [hva.len, hn]) hL.1.1 (by rw [List.reverse_reverse]) (by rw [va2n.cats]; simpa using hw) hd ⟨by omega, by omega⟩) hS ?_
  intro δ ws' H1 locs1 vr q1 q2 q3 q4 q5
  refine mm_Wmono (fun t h => h.ext (δ := δ) (by omega) (by omega)) (hr hc q1 q2 q3 q4 hL.mono ?_ (by omega) (by omega))
  cases vr <;> first | exact q5.elim | exact va2n.mono
/-- a static method with handlers -/
theorem mm_callSW {k' idx n : Nat} {as S0 : List Value} {v : Option Value} (hd : decode (mm_cb k) pc = .ok (.invokestatic idx, 3)) (m1 : Cond.codeWith (mm_yn k') (mm_cb k') (mm_ml k') (mm_rt k') (mm_ht k') ∈ mm_tb) (m2 : Cond.initialized (mm_yn k').cls ∈ mm_tb) (m3 : (mm_yn k').cls ≠ "java/lang/invoke/MethodHandle" ∧ (mm_yn k').cls ≠ "java/lang/invoke/VarHandle")
    (m5 : (parseMethodDescriptor (mm_yn k').desc).map (fun d => d.parameters.length) = some n) (m6 : mm_ml k' ≤ 60) (m7 : mm_is k') (hl : Cond.methodLink (mm_yn k).cls idx (mm_yn k') ∈ mm_tb) (hs : Cond.static (mm_yn k') ∈ mm_tb)
    (hst : S0 = as.reverse ++ S) (hn : as.length = n) (hcat : (as.map fun v => v.category).sum ≤ mm_ml k') (hw : (S.map fun v => v.category).sum ≤ 8)
    (hcall : mm_Call l X k' d as σ mc1 ms1 (.inl v) σ1) (hr : mm_Run l X k (d + 1) (pc + 3) L (v.toList ++ S) σ1 mc ms o σ') : mm_Run l X k (d + 1) pc L S0 σ (mc1 + mc) (ms1 + ms) o σ' := by
  intro p e R s m args below meth c D A cI cL φ hc H locs cells slots ρ ws ls st hW hP hD hS hL hV h1 h2
  subst hst
  obtain ⟨ar, rest, rfl, va1, va2⟩ := hV.split
  have hva := va1.rev
  rw [List.reverse_reverse] at hva
  have hM := mm_met (D := D) (A := A) m7 hcat hc.2.2.2.2.2.2.2.2.2.2.2.2.2.2 hcall hva hW
  have hts := hc.2.2.2.2.2.2.1
  have hpre := mm_pre (avr := ar.reverse) hc hP hD hS
  have a11 := hc.2.2.2.2.2.2.2.2.2.2.1
  have a12 := hc.2.2.2.2.2.2.2.2.2.2.2.1
  have hwd : ∀ w ∈ mm_tb, ∀ (a' : Array Value) (U : State), s.WarmedH U.vm → w.before a' U = true := fun w h a' U hU => mm_wm (List.mem_filter.mp h).2 hU (hts w h)
  have hK : Back l R p e below s args (mm_yn k') 3 8 (PreOf R mc1 ms1 (mm_P X φ D A cI cL ws ar.reverse)) (PostOf (mm_QO φ ρ D A cI cL (.inl v) σ1) mc1 ms1 A) :=
    va_backW (bytes := mm_cb k') (maxL := mm_ml k') (ret := mm_rt k') (hh := mm_ht k') hM hpre.1 rfl rfl (by rw [mm_rm_f]; omega) (by rw [mm_rm_l]; exact mm_ar m6 a12) hwd m1 (fun a' U hU => hwd _ m2 a' U hU)
  obtain ⟨mk, methM, cM, hnamed, hmethM, -, -, -, -, -, -, hsigM⟩ := Cond.codeWith_spec (hts _ m1)
  have hstatic : methM.isStatic = true := Cond.static_spec hnamed hmethM (hts _ hs)
  obtain ⟨kP, hkP, -⟩ := className_of_methodNamed hnamed
  have hinitP : kP.init = .initialized := Cond.initialized_spec (findClass_of_methodNamed hnamed) hkP (hts _ m2)
  have hlen : ar.reverse.length = methM.sig.parameters.length := by
    rw [hva.len, hn]; rw [hsigM] at m5; exact (Option.some.inj m5).symm
  have hrun : va_Run p l e R s m args below meth c H locs cells slots mc1 ms1 (F0 m pc ls (ar ++ rest)) rest (mm_QO φ ρ D A cI cL (.inl v) σ1 ar.reverse.toArray) A := by
    intro T hT Y
    obtain ⟨vm₁, X₁, hstep₁⟩ := Y.invokestatic hc.1 hc.2.2.2.2.2.1 (hts _ hl) hnamed hmethM hstatic hkP hinitP m3 (g := F0 m pc ls (ar ++ rest)) rfl (argsL := ar.reverse) (rest := rest) hlen (by rw [List.reverse_reverse]) (by rw [hc.2.1]; exact hd)
    obtain ⟨v0, B, X', ⟨g', mk', t, Lc, b1, b2, b3, b4, b5, b6, b7⟩, hsteps⟩ := hK m meth c ⟨T.setVm vm₁, locs, cells, slots⟩ (F0 m pc ls rest) (.invokestatic idx) mk ar.reverse.toArray X₁ rfl (hL.1.1.trans hc.2.2.1.symm) (by rw [hc.2.1]; exact hd) (by show 2 * 0 + _ ≤ 8; rw [va2.cats]; simpa using hw) (X₁.named hnamed) ⟨by show cells + mc1 ≤ _; omega, by show slots + ms1 ≤ _; omega, hpre.2 (T.setVm vm₁) hT X₁.warmed⟩
    simp only [Pt.U, Pt.locs, Pt.cells, Pt.slots] at b1 b2 b4 b6 b7 X' hsteps
    refine ⟨v0, (T.setVm vm₁).calling g' mk' ar.reverse.toArray, t, B.1, Lc, hT, ?_, b5, b1, b2, b3, fun target h => hstep₁ _ fun acts => by rw [doInvoke_state]; exact hsteps.trans h⟩
    rw [← b4, ← b6, ← b7]; exact X'
  refine mm_goes hrun hS ?_
  intro δ ws' H1 locs1 vr q1 q2 q3 q4 q5
  refine mm_Wmono (fun t h => h.ext (δ := δ) (by omega) (by omega)) (hr hc q1 q2 q3 q4 hL.mono ?_ (by omega) (by omega))
  cases v <;> cases vr <;> first | exact q5.elim | exact va2.mono | exact ⟨q5, va2.mono⟩
end MMN
end
section
/-! ===== facts of the tables ===== -/
theorem mm_places {ws big : List Cond} (ps : List Nat) (h : ws = ps.filterMap (fun i => big[i]?)) : ∀ w ∈ ws, w ∈ big := by
  intro w hw
  rw [h] at hw
  obtain ⟨i, -, hi⟩ := List.mem_filterMap.mp hw
  exact List.mem_of_getElem? hi
theorem mm_in {w : Cond} (i : Nat) (h : tables_1[i]? = some w) (hw : mm_gw w = true) : w ∈ mm_tb := List.mem_filter.mpr ⟨List.mem_append_right _ (List.mem_of_getElem? h), hw⟩
theorem mm_ins {w : Cond} (i : Nat) (h : (k2_sels lw_privs)[i]? = some w) (hw : mm_gw w = true) : w ∈ mm_tb := List.mem_filter.mpr ⟨List.mem_append_left _ (List.mem_of_getElem? h), hw⟩
def mm_ty0 : Nat → FieldType := fun j => [(.object "LazyTester$Types"), (.object "LazyTester$DepthTable"), (.object "LazyTester$SizeTable"), (.object "LazyTester$Row"), (.object "LazyTester$Value"), (.object "LazyTester$SizedValues"), (.object "LazyTester$Pile"), (.object "LazyTester$Refining"), .int, .long].getD j .int
theorem okc0 : mm_okc 0 := ⟨_, _, _, rfl, rfl, fun w h => List.mem_filter.mpr ⟨List.mem_append_right _ (mm_places [193, 195, 197, 199, 201, 203, 205, 207, 209, 211] (by decide +kernel) w h), List.all_eq_true.mp (by decide +kernel : (u_ws _ _ _).all mm_gw = true) w h⟩, ⟨mm_ty0, by decide +kernel⟩, by decide +kernel⟩
def mm_ty1 : Nat → FieldType := fun j => [(.array .int), (.array .int), (.array .int)].getD j .int
theorem okc1 : mm_okc 1 := ⟨_, _, _, rfl, rfl, fun w h => List.mem_filter.mpr ⟨List.mem_append_right _ (mm_places [38, 40, 42] (by decide +kernel) w h), List.all_eq_true.mp (by decide +kernel : (u_ws _ _ _).all mm_gw = true) w h⟩, ⟨mm_ty1, by decide +kernel⟩, by decide +kernel⟩
def mm_ty2 : Nat → FieldType := fun j => [(.object "LazyTester$Types"), (.array .long), (.array .long)].getD j .int
theorem okc2 : mm_okc 2 := ⟨_, _, _, rfl, rfl, fun w h => List.mem_filter.mpr ⟨List.mem_append_right _ (mm_places [55, 57, 59] (by decide +kernel) w h), List.all_eq_true.mp (by decide +kernel : (u_ws _ _ _).all mm_gw = true) w h⟩, ⟨mm_ty2, by decide +kernel⟩, by decide +kernel⟩
def mm_ty3 : Nat → FieldType := fun j => [(.object "LazyTester$Types"), (.array .long), (.array .long)].getD j .int
theorem okc3 : mm_okc 3 := ⟨_, _, _, rfl, rfl, fun w h => List.mem_filter.mpr ⟨List.mem_append_right _ (mm_places [72, 74, 76] (by decide +kernel) w h), List.all_eq_true.mp (by decide +kernel : (u_ws _ _ _).all mm_gw = true) w h⟩, ⟨mm_ty3, by decide +kernel⟩, by decide +kernel⟩
def mm_ty4 : Nat → FieldType := fun j => [(.array .int), .int].getD j .int
theorem okc4 : mm_okc 4 := ⟨_, _, _, rfl, rfl, fun w h => List.mem_filter.mpr ⟨List.mem_append_right _ (mm_places [87, 89] (by decide +kernel) w h), List.all_eq_true.mp (by decide +kernel : (u_ws _ _ _).all mm_gw = true) w h⟩, ⟨mm_ty4, by decide +kernel⟩, by decide +kernel⟩
def mm_ty5 : Nat → FieldType := fun j => [(.object "LazyTester$Types"), (.object "LazyTester$DepthTable"), (.array .int), (.array .int), (.array .int)].getD j .int
theorem okc5 : mm_okc 5 := ⟨_, _, _, rfl, rfl, fun w h => List.mem_filter.mpr ⟨List.mem_append_right _ (mm_places [103, 105, 107, 109, 111] (by decide +kernel) w h), List.all_eq_true.mp (by decide +kernel : (u_ws _ _ _).all mm_gw = true) w h⟩, ⟨mm_ty5, by decide +kernel⟩, by decide +kernel⟩
def mm_ty6 : Nat → FieldType := fun j => [(.object "LazyTester$Types"), (.object "LazyTester$SizeTable"), (.object "LazyTester$Row"), (.array .int)].getD j .int
theorem okc6 : mm_okc 6 := ⟨_, _, _, rfl, rfl, fun w h => List.mem_filter.mpr ⟨List.mem_append_right _ (mm_places [124, 126, 128, 130] (by decide +kernel) w h), List.all_eq_true.mp (by decide +kernel : (u_ws _ _ _).all mm_gw = true) w h⟩, ⟨mm_ty6, by decide +kernel⟩, by decide +kernel⟩
def mm_ty7 : Nat → FieldType := fun j => [(.array .int), (.array .int), (.array .int), (.array .int), .int, .int].getD j .int
theorem okc7 : mm_okc 7 := ⟨_, _, _, rfl, rfl, fun w h => List.mem_filter.mpr ⟨List.mem_append_right _ (mm_places [145, 147, 149, 151, 153, 155] (by decide +kernel) w h), List.all_eq_true.mp (by decide +kernel : (u_ws _ _ _).all mm_gw = true) w h⟩, ⟨mm_ty7, by decide +kernel⟩, by decide +kernel⟩
def mm_ty8 : Nat → FieldType := fun j => [(.object "LazyTester$Value"), (.object "LazyTester$Pile"), (.array .int), .int, .int, .long].getD j .int
theorem okc8 : mm_okc 8 := ⟨_, _, _, rfl, rfl, fun w h => List.mem_filter.mpr ⟨List.mem_append_right _ (mm_places [170, 172, 174, 176, 178, 180] (by decide +kernel) w h), List.all_eq_true.mp (by decide +kernel : (u_ws _ _ _).all mm_gw = true) w h⟩, ⟨mm_ty8, by decide +kernel⟩, by decide +kernel⟩
def mm_ty9 : Nat → FieldType := fun j => [.int, (.array .int), (.array .int), (.array .int), (.array .long), (.array .long), (.array .int), (.array .int), .int, (.array .int), .int, (.array .int), (.array .int), (.array .long), .int, (.array .int), (.array .int), (.array .int), (.array .int), .int, (.array .int), .int, (.array .int), (.array .int), .int, .int, .long].getD j .int
theorem okc9 : mm_okc 9 := ⟨_, _, _, rfl, rfl, fun w h => List.mem_filter.mpr ⟨List.mem_append_right _ (mm_places [738, 740, 742, 744, 746, 748, 750, 752, 754, 756, 758, 760, 762, 764, 766, 768, 770, 772, 774, 776, 778, 780, 782, 784, 786, 788, 790] (by decide +kernel) w h), List.all_eq_true.mp (by decide +kernel : (u_ws _ _ _).all mm_gw = true) w h⟩, ⟨mm_ty9, by decide +kernel⟩, by decide +kernel⟩
theorem cw0 : Cond.code (mm_yn 0) (mm_cb 0) (mm_ml 0) (mm_rt 0) ∈ mm_tb := mm_in 25 (by decide +kernel) rfl
theorem okm0 : mm_okm 0 0 := ⟨cw0, mm_in 1 (by decide +kernel) rfl, by decide +kernel, by decide +kernel, by decide +kernel, by decide +kernel, mm_is_of (by decide +kernel) cw0 rfl⟩
theorem cw1 : Cond.code (mm_yn 1) (mm_cb 1) (mm_ml 1) (mm_rt 1) ∈ mm_tb := mm_in 33 (by decide +kernel) rfl
theorem okm1 : mm_okm 1 0 := ⟨cw1, mm_in 2 (by decide +kernel) rfl, by decide +kernel, by decide +kernel, by decide +kernel, by decide +kernel, mm_is_of (by decide +kernel) cw1 rfl⟩
theorem cw2 : Cond.code (mm_yn 2) (mm_cb 2) (mm_ml 2) (mm_rt 2) ∈ mm_tb := mm_in 50 (by decide +kernel) rfl
theorem okm2 : mm_okm 2 1 := ⟨cw2, mm_in 3 (by decide +kernel) rfl, by decide +kernel, by decide +kernel, by decide +kernel, by decide +kernel, mm_is_of (by decide +kernel) cw2 rfl⟩
theorem cw3 : Cond.code (mm_yn 3) (mm_cb 3) (mm_ml 3) (mm_rt 3) ∈ mm_tb := mm_in 67 (by decide +kernel) rfl
theorem okm3 : mm_okm 3 1 := ⟨cw3, mm_in 4 (by decide +kernel) rfl, by decide +kernel, by decide +kernel, by decide +kernel, by decide +kernel, mm_is_of (by decide +kernel) cw3 rfl⟩
theorem cw4 : Cond.code (mm_yn 4) (mm_cb 4) (mm_ml 4) (mm_rt 4) ∈ mm_tb := mm_in 83 (by decide +kernel) rfl
theorem okm4 : mm_okm 4 0 := ⟨cw4, mm_in 5 (by decide +kernel) rfl, by decide +kernel, by decide +kernel, by decide +kernel, by decide +kernel, mm_is_of (by decide +kernel) cw4 rfl⟩
theorem cw5 : Cond.code (mm_yn 5) (mm_cb 5) (mm_ml 5) (mm_rt 5) ∈ mm_tb := mm_in 96 (by decide +kernel) rfl
theorem okm5 : mm_okm 5 2 := ⟨cw5, mm_in 6 (by decide +kernel) rfl, by decide +kernel, by decide +kernel, by decide +kernel, by decide +kernel, mm_is_of (by decide +kernel) cw5 rfl⟩
theorem cw6 : Cond.code (mm_yn 6) (mm_cb 6) (mm_ml 6) (mm_rt 6) ∈ mm_tb := mm_in 118 (by decide +kernel) rfl
theorem okm6 : mm_okm 6 3 := ⟨cw6, mm_in 7 (by decide +kernel) rfl, by decide +kernel, by decide +kernel, by decide +kernel, by decide +kernel, mm_is_of (by decide +kernel) cw6 rfl⟩
theorem cw7 : Cond.code (mm_yn 7) (mm_cb 7) (mm_ml 7) (mm_rt 7) ∈ mm_tb := mm_in 137 (by decide +kernel) rfl
theorem okm7 : mm_okm 7 0 := ⟨cw7, mm_in 8 (by decide +kernel) rfl, by decide +kernel, by decide +kernel, by decide +kernel, by decide +kernel, mm_is_of (by decide +kernel) cw7 rfl⟩
theorem cw8 : Cond.code (mm_yn 8) (mm_cb 8) (mm_ml 8) (mm_rt 8) ∈ mm_tb := mm_in 162 (by decide +kernel) rfl
theorem okm8 : mm_okm 8 2 := ⟨cw8, mm_in 9 (by decide +kernel) rfl, by decide +kernel, by decide +kernel, by decide +kernel, by decide +kernel, mm_is_of (by decide +kernel) cw8 rfl⟩
theorem cw9 : Cond.code (mm_yn 9) (mm_cb 9) (mm_ml 9) (mm_rt 9) ∈ mm_tb := mm_in 217 (by decide +kernel) rfl
theorem okm9 : mm_okm 9 1 := ⟨cw9, mm_in 1 (by decide +kernel) rfl, by decide +kernel, by decide +kernel, by decide +kernel, by decide +kernel, mm_is_of (by decide +kernel) cw9 rfl⟩
theorem cw10 : Cond.code (mm_yn 10) (mm_cb 10) (mm_ml 10) (mm_rt 10) ∈ mm_tb := mm_in 221 (by decide +kernel) rfl
theorem okm10 : mm_okm 10 1 := ⟨cw10, mm_in 5 (by decide +kernel) rfl, by decide +kernel, by decide +kernel, by decide +kernel, by decide +kernel, mm_is_of (by decide +kernel) cw10 rfl⟩
theorem cw11 : Cond.code (mm_yn 11) (mm_cb 11) (mm_ml 11) (mm_rt 11) ∈ mm_tb := mm_in 225 (by decide +kernel) rfl
theorem okm11 : mm_okm 11 0 := ⟨cw11, mm_in 1 (by decide +kernel) rfl, by decide +kernel, by decide +kernel, by decide +kernel, by decide +kernel, mm_is_of (by decide +kernel) cw11 rfl⟩
theorem cw12 : Cond.code (mm_yn 12) (mm_cb 12) (mm_ml 12) (mm_rt 12) ∈ mm_tb := mm_in 229 (by decide +kernel) rfl
theorem okm12 : mm_okm 12 0 := ⟨cw12, mm_in 8 (by decide +kernel) rfl, by decide +kernel, by decide +kernel, by decide +kernel, by decide +kernel, mm_is_of (by decide +kernel) cw12 rfl⟩
theorem cw13 : Cond.code (mm_yn 13) (mm_cb 13) (mm_ml 13) (mm_rt 13) ∈ mm_tb := mm_in 233 (by decide +kernel) rfl
theorem okm13 : mm_okm 13 0 := ⟨cw13, mm_in 1 (by decide +kernel) rfl, by decide +kernel, by decide +kernel, by decide +kernel, by decide +kernel, mm_is_of (by decide +kernel) cw13 rfl⟩
theorem cw14 : Cond.code (mm_yn 14) (mm_cb 14) (mm_ml 14) (mm_rt 14) ∈ mm_tb := mm_in 237 (by decide +kernel) rfl
theorem okm14 : mm_okm 14 0 := ⟨cw14, mm_in 1 (by decide +kernel) rfl, by decide +kernel, by decide +kernel, by decide +kernel, by decide +kernel, mm_is_of (by decide +kernel) cw14 rfl⟩
theorem cw15 : Cond.codeWith (mm_yn 15) (mm_cb 15) (mm_ml 15) (mm_rt 15) (mm_ht 15) ∈ mm_tb := mm_in 240 (by decide +kernel) rfl
theorem isw15 : mm_is 15 := mm_is_ofW (by decide +kernel) cw15
theorem cw16 : Cond.code (mm_yn 16) (mm_cb 16) (mm_ml 16) (mm_rt 16) ∈ mm_tb := mm_in 247 (by decide +kernel) rfl
theorem okm16 : mm_okm 16 5 := ⟨cw16, mm_in 1 (by decide +kernel) rfl, by decide +kernel, by decide +kernel, by decide +kernel, by decide +kernel, mm_is_of (by decide +kernel) cw16 rfl⟩
theorem cw17 : Cond.code (mm_yn 17) (mm_cb 17) (mm_ml 17) (mm_rt 17) ∈ mm_tb := mm_in 250 (by decide +kernel) rfl
theorem okm17 : mm_okm 17 1 := ⟨cw17, mm_in 1 (by decide +kernel) rfl, by decide +kernel, by decide +kernel, by decide +kernel, by decide +kernel, mm_is_of (by decide +kernel) cw17 rfl⟩
theorem cw18 : Cond.code (mm_yn 18) (mm_cb 18) (mm_ml 18) (mm_rt 18) ∈ mm_tb := mm_in 337 (by decide +kernel) rfl
theorem okm18 : mm_okm 18 4 := ⟨cw18, mm_in 1 (by decide +kernel) rfl, by decide +kernel, by decide +kernel, by decide +kernel, by decide +kernel, mm_is_of (by decide +kernel) cw18 rfl⟩
theorem cw19 : Cond.code (mm_yn 19) (mm_cb 19) (mm_ml 19) (mm_rt 19) ∈ mm_tb := mm_in 342 (by decide +kernel) rfl
theorem okm19 : mm_okm 19 1 := ⟨cw19, mm_in 2 (by decide +kernel) rfl, by decide +kernel, by decide +kernel, by decide +kernel, by decide +kernel, mm_is_of (by decide +kernel) cw19 rfl⟩
theorem cw20 : Cond.code (mm_yn 20) (mm_cb 20) (mm_ml 20) (mm_rt 20) ∈ mm_tb := mm_in 362 (by decide +kernel) rfl
theorem okm20 : mm_okm 20 5 := ⟨cw20, mm_in 2 (by decide +kernel) rfl, by decide +kernel, by decide +kernel, by decide +kernel, by decide +kernel, mm_is_of (by decide +kernel) cw20 rfl⟩
theorem cw21 : Cond.code (mm_yn 21) (mm_cb 21) (mm_ml 21) (mm_rt 21) ∈ mm_tb := mm_in 365 (by decide +kernel) rfl
theorem okm21 : mm_okm 21 2 := ⟨cw21, mm_in 2 (by decide +kernel) rfl, by decide +kernel, by decide +kernel, by decide +kernel, by decide +kernel, mm_is_of (by decide +kernel) cw21 rfl⟩
theorem cw22 : Cond.code (mm_yn 22) (mm_cb 22) (mm_ml 22) (mm_rt 22) ∈ mm_tb := mm_in 369 (by decide +kernel) rfl
theorem okm22 : mm_okm 22 0 := ⟨cw22, mm_in 3 (by decide +kernel) rfl, by decide +kernel, by decide +kernel, by decide +kernel, by decide +kernel, mm_is_of (by decide +kernel) cw22 rfl⟩
theorem cw23 : Cond.code (mm_yn 23) (mm_cb 23) (mm_ml 23) (mm_rt 23) ∈ mm_tb := mm_in 373 (by decide +kernel) rfl
theorem okm23 : mm_okm 23 2 := ⟨cw23, mm_in 3 (by decide +kernel) rfl, by decide +kernel, by decide +kernel, by decide +kernel, by decide +kernel, mm_is_of (by decide +kernel) cw23 rfl⟩
theorem cw24 : Cond.code (mm_yn 24) (mm_cb 24) (mm_ml 24) (mm_rt 24) ∈ mm_tb := mm_in 379 (by decide +kernel) rfl
theorem okm24 : mm_okm 24 1 := ⟨cw24, mm_in 2 (by decide +kernel) rfl, by decide +kernel, by decide +kernel, by decide +kernel, by decide +kernel, mm_is_of (by decide +kernel) cw24 rfl⟩
theorem cw25 : Cond.code (mm_yn 25) (mm_cb 25) (mm_ml 25) (mm_rt 25) ∈ mm_tb := mm_in 383 (by decide +kernel) rfl
theorem okm25 : mm_okm 25 3 := ⟨cw25, mm_in 3 (by decide +kernel) rfl, by decide +kernel, by decide +kernel, by decide +kernel, by decide +kernel, mm_is_of (by decide +kernel) cw25 rfl⟩
theorem cw26 : Cond.code (mm_yn 26) (mm_cb 26) (mm_ml 26) (mm_rt 26) ∈ mm_tb := mm_in 387 (by decide +kernel) rfl
theorem okm26 : mm_okm 26 2 := ⟨cw26, mm_in 2 (by decide +kernel) rfl, by decide +kernel, by decide +kernel, by decide +kernel, by decide +kernel, mm_is_of (by decide +kernel) cw26 rfl⟩
theorem cw27 : Cond.code (mm_yn 27) (mm_cb 27) (mm_ml 27) (mm_rt 27) ∈ mm_tb := mm_in 391 (by decide +kernel) rfl
theorem okm27 : mm_okm 27 2 := ⟨cw27, mm_in 3 (by decide +kernel) rfl, by decide +kernel, by decide +kernel, by decide +kernel, by decide +kernel, mm_is_of (by decide +kernel) cw27 rfl⟩
theorem cw28 : Cond.code (mm_yn 28) (mm_cb 28) (mm_ml 28) (mm_rt 28) ∈ mm_tb := mm_in 394 (by decide +kernel) rfl
theorem okm28 : mm_okm 28 2 := ⟨cw28, mm_in 1 (by decide +kernel) rfl, by decide +kernel, by decide +kernel, by decide +kernel, by decide +kernel, mm_is_of (by decide +kernel) cw28 rfl⟩
theorem cw29 : Cond.code (mm_yn 29) (mm_cb 29) (mm_ml 29) (mm_rt 29) ∈ mm_tb := mm_in 398 (by decide +kernel) rfl
theorem okm29 : mm_okm 29 2 := ⟨cw29, mm_in 1 (by decide +kernel) rfl, by decide +kernel, by decide +kernel, by decide +kernel, by decide +kernel, mm_is_of (by decide +kernel) cw29 rfl⟩
theorem cw30 : Cond.code (mm_yn 30) (mm_cb 30) (mm_ml 30) (mm_rt 30) ∈ mm_tb := mm_in 405 (by decide +kernel) rfl
theorem okm30 : mm_okm 30 0 := ⟨cw30, mm_in 4 (by decide +kernel) rfl, by decide +kernel, by decide +kernel, by decide +kernel, by decide +kernel, mm_is_of (by decide +kernel) cw30 rfl⟩
theorem cw31 : Cond.code (mm_yn 31) (mm_cb 31) (mm_ml 31) (mm_rt 31) ∈ mm_tb := mm_in 409 (by decide +kernel) rfl
theorem okm31 : mm_okm 31 2 := ⟨cw31, mm_in 4 (by decide +kernel) rfl, by decide +kernel, by decide +kernel, by decide +kernel, by decide +kernel, mm_is_of (by decide +kernel) cw31 rfl⟩
theorem cw32 : Cond.code (mm_yn 32) (mm_cb 32) (mm_ml 32) (mm_rt 32) ∈ mm_tb := mm_in 416 (by decide +kernel) rfl
theorem okm32 : mm_okm 32 3 := ⟨cw32, mm_in 4 (by decide +kernel) rfl, by decide +kernel, by decide +kernel, by decide +kernel, by decide +kernel, mm_is_of (by decide +kernel) cw32 rfl⟩
theorem cw33 : Cond.code (mm_yn 33) (mm_cb 33) (mm_ml 33) (mm_rt 33) ∈ mm_tb := mm_in 421 (by decide +kernel) rfl
theorem okm33 : mm_okm 33 2 := ⟨cw33, mm_in 4 (by decide +kernel) rfl, by decide +kernel, by decide +kernel, by decide +kernel, by decide +kernel, mm_is_of (by decide +kernel) cw33 rfl⟩
theorem cw34 : Cond.code (mm_yn 34) (mm_cb 34) (mm_ml 34) (mm_rt 34) ∈ mm_tb := mm_in 425 (by decide +kernel) rfl
theorem okm34 : mm_okm 34 3 := ⟨cw34, mm_in 4 (by decide +kernel) rfl, by decide +kernel, by decide +kernel, by decide +kernel, by decide +kernel, mm_is_of (by decide +kernel) cw34 rfl⟩
theorem cw35 : Cond.codeWith (mm_yn 35) (mm_cb 35) (mm_ml 35) (mm_rt 35) (mm_ht 35) ∈ mm_tb := mm_in 428 (by decide +kernel) rfl
theorem isw35 : mm_is 35 := mm_is_ofW (by decide +kernel) cw35
theorem cw36 : Cond.code (mm_yn 36) (mm_cb 36) (mm_ml 36) (mm_rt 36) ∈ mm_tb := mm_in 432 (by decide +kernel) rfl
theorem okm36 : mm_okm 36 2 := ⟨cw36, mm_in 1 (by decide +kernel) rfl, by decide +kernel, by decide +kernel, by decide +kernel, by decide +kernel, mm_is_of (by decide +kernel) cw36 rfl⟩
theorem cw37 : Cond.code (mm_yn 37) (mm_cb 37) (mm_ml 37) (mm_rt 37) ∈ mm_tb := mm_in 435 (by decide +kernel) rfl
theorem okm37 : mm_okm 37 1 := ⟨cw37, mm_in 1 (by decide +kernel) rfl, by decide +kernel, by decide +kernel, by decide +kernel, by decide +kernel, mm_is_of (by decide +kernel) cw37 rfl⟩
theorem cw38 : Cond.codeWith (mm_yn 38) (mm_cb 38) (mm_ml 38) (mm_rt 38) (mm_ht 38) ∈ mm_tb := mm_in 440 (by decide +kernel) rfl
theorem isw38 : mm_is 38 := mm_is_ofW (by decide +kernel) cw38
theorem cw39 : Cond.code (mm_yn 39) (mm_cb 39) (mm_ml 39) (mm_rt 39) ∈ mm_tb := mm_in 444 (by decide +kernel) rfl
theorem okm39 : mm_okm 39 3 := ⟨cw39, mm_in 1 (by decide +kernel) rfl, by decide +kernel, by decide +kernel, by decide +kernel, by decide +kernel, mm_is_of (by decide +kernel) cw39 rfl⟩
theorem cw40 : Cond.code (mm_yn 40) (mm_cb 40) (mm_ml 40) (mm_rt 40) ∈ mm_tb := mm_in 447 (by decide +kernel) rfl
theorem okm40 : mm_okm 40 2 := ⟨cw40, mm_in 1 (by decide +kernel) rfl, by decide +kernel, by decide +kernel, by decide +kernel, by decide +kernel, mm_is_of (by decide +kernel) cw40 rfl⟩
theorem cw41 : Cond.code (mm_yn 41) (mm_cb 41) (mm_ml 41) (mm_rt 41) ∈ mm_tb := mm_in 452 (by decide +kernel) rfl
theorem okm41 : mm_okm 41 3 := ⟨cw41, mm_in 6 (by decide +kernel) rfl, by decide +kernel, by decide +kernel, by decide +kernel, by decide +kernel, mm_is_of (by decide +kernel) cw41 rfl⟩
theorem cw42 : Cond.code (mm_yn 42) (mm_cb 42) (mm_ml 42) (mm_rt 42) ∈ mm_tb := mm_in 456 (by decide +kernel) rfl
theorem okm42 : mm_okm 42 3 := ⟨cw42, mm_in 6 (by decide +kernel) rfl, by decide +kernel, by decide +kernel, by decide +kernel, by decide +kernel, mm_is_of (by decide +kernel) cw42 rfl⟩
theorem cw43 : Cond.code (mm_yn 43) (mm_cb 43) (mm_ml 43) (mm_rt 43) ∈ mm_tb := mm_in 462 (by decide +kernel) rfl
theorem okm43 : mm_okm 43 2 := ⟨cw43, mm_in 3 (by decide +kernel) rfl, by decide +kernel, by decide +kernel, by decide +kernel, by decide +kernel, mm_is_of (by decide +kernel) cw43 rfl⟩
theorem cw44 : Cond.code (mm_yn 44) (mm_cb 44) (mm_ml 44) (mm_rt 44) ∈ mm_tb := mm_in 466 (by decide +kernel) rfl
theorem okm44 : mm_okm 44 2 := ⟨cw44, mm_in 6 (by decide +kernel) rfl, by decide +kernel, by decide +kernel, by decide +kernel, by decide +kernel, mm_is_of (by decide +kernel) cw44 rfl⟩
theorem cw45 : Cond.code (mm_yn 45) (mm_cb 45) (mm_ml 45) (mm_rt 45) ∈ mm_tb := mm_in 470 (by decide +kernel) rfl
theorem okm45 : mm_okm 45 2 := ⟨cw45, mm_in 18 (by decide +kernel) rfl, by decide +kernel, by decide +kernel, by decide +kernel, by decide +kernel, mm_is_of (by decide +kernel) cw45 rfl⟩
theorem cw46 : Cond.code (mm_yn 46) (mm_cb 46) (mm_ml 46) (mm_rt 46) ∈ mm_tb := mm_in 475 (by decide +kernel) rfl
theorem okm46 : mm_okm 46 1 := ⟨cw46, mm_in 6 (by decide +kernel) rfl, by decide +kernel, by decide +kernel, by decide +kernel, by decide +kernel, mm_is_of (by decide +kernel) cw46 rfl⟩
theorem cw47 : Cond.code (mm_yn 47) (mm_cb 47) (mm_ml 47) (mm_rt 47) ∈ mm_tb := mm_in 480 (by decide +kernel) rfl
theorem okm47 : mm_okm 47 1 := ⟨cw47, mm_in 6 (by decide +kernel) rfl, by decide +kernel, by decide +kernel, by decide +kernel, by decide +kernel, mm_is_of (by decide +kernel) cw47 rfl⟩
theorem cw48 : Cond.code (mm_yn 48) (mm_cb 48) (mm_ml 48) (mm_rt 48) ∈ mm_tb := mm_in 484 (by decide +kernel) rfl
theorem okm48 : mm_okm 48 0 := ⟨cw48, mm_in 5 (by decide +kernel) rfl, by decide +kernel, by decide +kernel, by decide +kernel, by decide +kernel, mm_is_of (by decide +kernel) cw48 rfl⟩
theorem cw49 : Cond.code (mm_yn 49) (mm_cb 49) (mm_ml 49) (mm_rt 49) ∈ mm_tb := mm_in 488 (by decide +kernel) rfl
theorem okm49 : mm_okm 49 3 := ⟨cw49, mm_in 6 (by decide +kernel) rfl, by decide +kernel, by decide +kernel, by decide +kernel, by decide +kernel, mm_is_of (by decide +kernel) cw49 rfl⟩
theorem cw50 : Cond.code (mm_yn 50) (mm_cb 50) (mm_ml 50) (mm_rt 50) ∈ mm_tb := mm_in 492 (by decide +kernel) rfl
theorem okm50 : mm_okm 50 1 := ⟨cw50, mm_in 5 (by decide +kernel) rfl, by decide +kernel, by decide +kernel, by decide +kernel, by decide +kernel, mm_is_of (by decide +kernel) cw50 rfl⟩
theorem cw51 : Cond.code (mm_yn 51) (mm_cb 51) (mm_ml 51) (mm_rt 51) ∈ mm_tb := mm_in 496 (by decide +kernel) rfl
theorem okm51 : mm_okm 51 0 := ⟨cw51, mm_in 5 (by decide +kernel) rfl, by decide +kernel, by decide +kernel, by decide +kernel, by decide +kernel, mm_is_of (by decide +kernel) cw51 rfl⟩
theorem cw52 : Cond.codeWith (mm_yn 52) (mm_cb 52) (mm_ml 52) (mm_rt 52) (mm_ht 52) ∈ mm_tb := mm_in 499 (by decide +kernel) rfl
theorem isw52 : mm_is 52 := mm_is_ofW (by decide +kernel) cw52
theorem cw53 : Cond.code (mm_yn 53) (mm_cb 53) (mm_ml 53) (mm_rt 53) ∈ mm_tb := mm_in 503 (by decide +kernel) rfl
theorem okm53 : mm_okm 53 2 := ⟨cw53, mm_in 1 (by decide +kernel) rfl, by decide +kernel, by decide +kernel, by decide +kernel, by decide +kernel, mm_is_of (by decide +kernel) cw53 rfl⟩
theorem cw54 : Cond.code (mm_yn 54) (mm_cb 54) (mm_ml 54) (mm_rt 54) ∈ mm_tb := mm_in 506 (by decide +kernel) rfl
theorem okm54 : mm_okm 54 1 := ⟨cw54, mm_in 1 (by decide +kernel) rfl, by decide +kernel, by decide +kernel, by decide +kernel, by decide +kernel, mm_is_of (by decide +kernel) cw54 rfl⟩
theorem cw55 : Cond.codeWith (mm_yn 55) (mm_cb 55) (mm_ml 55) (mm_rt 55) (mm_ht 55) ∈ mm_tb := mm_in 511 (by decide +kernel) rfl
theorem isw55 : mm_is 55 := mm_is_ofW (by decide +kernel) cw55
theorem cw56 : Cond.code (mm_yn 56) (mm_cb 56) (mm_ml 56) (mm_rt 56) ∈ mm_tb := mm_in 515 (by decide +kernel) rfl
theorem okm56 : mm_okm 56 3 := ⟨cw56, mm_in 1 (by decide +kernel) rfl, by decide +kernel, by decide +kernel, by decide +kernel, by decide +kernel, mm_is_of (by decide +kernel) cw56 rfl⟩
theorem cw57 : Cond.code (mm_yn 57) (mm_cb 57) (mm_ml 57) (mm_rt 57) ∈ mm_tb := mm_in 519 (by decide +kernel) rfl
theorem okm57 : mm_okm 57 3 := ⟨cw57, mm_in 7 (by decide +kernel) rfl, by decide +kernel, by decide +kernel, by decide +kernel, by decide +kernel, mm_is_of (by decide +kernel) cw57 rfl⟩
theorem cw58 : Cond.code (mm_yn 58) (mm_cb 58) (mm_ml 58) (mm_rt 58) ∈ mm_tb := mm_in 524 (by decide +kernel) rfl
theorem okm58 : mm_okm 58 3 := ⟨cw58, mm_in 7 (by decide +kernel) rfl, by decide +kernel, by decide +kernel, by decide +kernel, by decide +kernel, mm_is_of (by decide +kernel) cw58 rfl⟩
theorem cw59 : Cond.code (mm_yn 59) (mm_cb 59) (mm_ml 59) (mm_rt 59) ∈ mm_tb := mm_in 532 (by decide +kernel) rfl
theorem okm59 : mm_okm 59 3 := ⟨cw59, mm_in 7 (by decide +kernel) rfl, by decide +kernel, by decide +kernel, by decide +kernel, by decide +kernel, mm_is_of (by decide +kernel) cw59 rfl⟩
theorem cw60 : Cond.code (mm_yn 60) (mm_cb 60) (mm_ml 60) (mm_rt 60) ∈ mm_tb := mm_in 536 (by decide +kernel) rfl
theorem okm60 : mm_okm 60 3 := ⟨cw60, mm_in 7 (by decide +kernel) rfl, by decide +kernel, by decide +kernel, by decide +kernel, by decide +kernel, mm_is_of (by decide +kernel) cw60 rfl⟩
theorem cw61 : Cond.code (mm_yn 61) (mm_cb 61) (mm_ml 61) (mm_rt 61) ∈ mm_tb := mm_in 542 (by decide +kernel) rfl
theorem okm61 : mm_okm 61 4 := ⟨cw61, mm_in 7 (by decide +kernel) rfl, by decide +kernel, by decide +kernel, by decide +kernel, by decide +kernel, mm_is_of (by decide +kernel) cw61 rfl⟩
theorem cw62 : Cond.code (mm_yn 62) (mm_cb 62) (mm_ml 62) (mm_rt 62) ∈ mm_tb := mm_in 547 (by decide +kernel) rfl
theorem okm62 : mm_okm 62 3 := ⟨cw62, mm_in 7 (by decide +kernel) rfl, by decide +kernel, by decide +kernel, by decide +kernel, by decide +kernel, mm_is_of (by decide +kernel) cw62 rfl⟩
theorem cw63 : Cond.codeWith (mm_yn 63) (mm_cb 63) (mm_ml 63) (mm_rt 63) (mm_ht 63) ∈ mm_tb := mm_in 550 (by decide +kernel) rfl
theorem isw63 : mm_is 63 := mm_is_ofW (by decide +kernel) cw63
theorem cw64 : Cond.code (mm_yn 64) (mm_cb 64) (mm_ml 64) (mm_rt 64) ∈ mm_tb := mm_in 554 (by decide +kernel) rfl
theorem okm64 : mm_okm 64 2 := ⟨cw64, mm_in 1 (by decide +kernel) rfl, by decide +kernel, by decide +kernel, by decide +kernel, by decide +kernel, mm_is_of (by decide +kernel) cw64 rfl⟩
theorem cw65 : Cond.code (mm_yn 65) (mm_cb 65) (mm_ml 65) (mm_rt 65) ∈ mm_tb := mm_in 557 (by decide +kernel) rfl
theorem okm65 : mm_okm 65 1 := ⟨cw65, mm_in 1 (by decide +kernel) rfl, by decide +kernel, by decide +kernel, by decide +kernel, by decide +kernel, mm_is_of (by decide +kernel) cw65 rfl⟩
theorem cw66 : Cond.code (mm_yn 66) (mm_cb 66) (mm_ml 66) (mm_rt 66) ∈ mm_tb := mm_in 560 (by decide +kernel) rfl
theorem okm66 : mm_okm 66 1 := ⟨cw66, mm_in 18 (by decide +kernel) rfl, by decide +kernel, by decide +kernel, by decide +kernel, by decide +kernel, mm_is_of (by decide +kernel) cw66 rfl⟩
theorem cw67 : Cond.code (mm_yn 67) (mm_cb 67) (mm_ml 67) (mm_rt 67) ∈ mm_tb := mm_in 566 (by decide +kernel) rfl
theorem okm67 : mm_okm 67 0 := ⟨cw67, mm_in 1 (by decide +kernel) rfl, by decide +kernel, by decide +kernel, by decide +kernel, by decide +kernel, mm_is_of (by decide +kernel) cw67 rfl⟩
theorem cw68 : Cond.code (mm_yn 68) (mm_cb 68) (mm_ml 68) (mm_rt 68) ∈ mm_tb := mm_in 570 (by decide +kernel) rfl
theorem okm68 : mm_okm 68 0 := ⟨cw68, mm_in 8 (by decide +kernel) rfl, by decide +kernel, by decide +kernel, by decide +kernel, by decide +kernel, mm_is_of (by decide +kernel) cw68 rfl⟩
theorem cw69 : Cond.code (mm_yn 69) (mm_cb 69) (mm_ml 69) (mm_rt 69) ∈ mm_tb := mm_in 575 (by decide +kernel) rfl
theorem okm69 : mm_okm 69 3 := ⟨cw69, mm_in 8 (by decide +kernel) rfl, by decide +kernel, by decide +kernel, by decide +kernel, by decide +kernel, mm_is_of (by decide +kernel) cw69 rfl⟩
theorem cw70 : Cond.codeWith (mm_yn 70) (mm_cb 70) (mm_ml 70) (mm_rt 70) (mm_ht 70) ∈ mm_tb := mm_in 578 (by decide +kernel) rfl
theorem isw70 : mm_is 70 := mm_is_ofW (by decide +kernel) cw70
theorem cw71 : Cond.code (mm_yn 71) (mm_cb 71) (mm_ml 71) (mm_rt 71) ∈ mm_tb := mm_in 582 (by decide +kernel) rfl
theorem okm71 : mm_okm 71 2 := ⟨cw71, mm_in 1 (by decide +kernel) rfl, by decide +kernel, by decide +kernel, by decide +kernel, by decide +kernel, mm_is_of (by decide +kernel) cw71 rfl⟩
theorem cw72 : Cond.codeWith (mm_yn 72) (mm_cb 72) (mm_ml 72) (mm_rt 72) (mm_ht 72) ∈ mm_tb := mm_in 585 (by decide +kernel) rfl
theorem isw72 : mm_is 72 := mm_is_ofW (by decide +kernel) cw72
theorem cw73 : Cond.code (mm_yn 73) (mm_cb 73) (mm_ml 73) (mm_rt 73) ∈ mm_tb := mm_in 589 (by decide +kernel) rfl
theorem okm73 : mm_okm 73 1 := ⟨cw73, mm_in 1 (by decide +kernel) rfl, by decide +kernel, by decide +kernel, by decide +kernel, by decide +kernel, mm_is_of (by decide +kernel) cw73 rfl⟩
theorem cw74 : Cond.code (mm_yn 74) (mm_cb 74) (mm_ml 74) (mm_rt 74) ∈ mm_tb := mm_in 594 (by decide +kernel) rfl
theorem okm74 : mm_okm 74 0 := ⟨cw74, mm_in 8 (by decide +kernel) rfl, by decide +kernel, by decide +kernel, by decide +kernel, by decide +kernel, mm_is_of (by decide +kernel) cw74 rfl⟩
theorem cw75 : Cond.code (mm_yn 75) (mm_cb 75) (mm_ml 75) (mm_rt 75) ∈ mm_tb := mm_in 597 (by decide +kernel) rfl
theorem okm75 : mm_okm 75 1 := ⟨cw75, mm_in 8 (by decide +kernel) rfl, by decide +kernel, by decide +kernel, by decide +kernel, by decide +kernel, mm_is_of (by decide +kernel) cw75 rfl⟩
theorem cw76 : Cond.code (mm_yn 76) (mm_cb 76) (mm_ml 76) (mm_rt 76) ∈ mm_tb := mm_in 602 (by decide +kernel) rfl
theorem okm76 : mm_okm 76 1 := ⟨cw76, mm_in 8 (by decide +kernel) rfl, by decide +kernel, by decide +kernel, by decide +kernel, by decide +kernel, mm_is_of (by decide +kernel) cw76 rfl⟩
theorem cw77 : Cond.codeWith (mm_yn 77) (mm_cb 77) (mm_ml 77) (mm_rt 77) (mm_ht 77) ∈ mm_tb := mm_in 607 (by decide +kernel) rfl
theorem isw77 : mm_is 77 := mm_is_ofW (by decide +kernel) cw77
theorem cw78 : Cond.code (mm_yn 78) (mm_cb 78) (mm_ml 78) (mm_rt 78) ∈ mm_tb := mm_in 611 (by decide +kernel) rfl
theorem okm78 : mm_okm 78 2 := ⟨cw78, mm_in 1 (by decide +kernel) rfl, by decide +kernel, by decide +kernel, by decide +kernel, by decide +kernel, mm_is_of (by decide +kernel) cw78 rfl⟩
theorem cw79 : Cond.code (mm_yn 79) (mm_cb 79) (mm_ml 79) (mm_rt 79) ∈ mm_tb := mm_in 615 (by decide +kernel) rfl
theorem okm79 : mm_okm 79 0 := ⟨cw79, mm_in 1 (by decide +kernel) rfl, by decide +kernel, by decide +kernel, by decide +kernel, by decide +kernel, mm_is_of (by decide +kernel) cw79 rfl⟩
theorem cw80 : Cond.code (mm_yn 80) (mm_cb 80) (mm_ml 80) (mm_rt 80) ∈ mm_tb := mm_in 622 (by decide +kernel) rfl
theorem okm80 : mm_okm 80 3 := ⟨cw80, mm_in 1 (by decide +kernel) rfl, by decide +kernel, by decide +kernel, by decide +kernel, by decide +kernel, mm_is_of (by decide +kernel) cw80 rfl⟩
theorem cw81 : Cond.code (mm_yn 81) (mm_cb 81) (mm_ml 81) (mm_rt 81) ∈ mm_tb := mm_in 626 (by decide +kernel) rfl
theorem okm81 : mm_okm 81 1 := ⟨cw81, mm_in 8 (by decide +kernel) rfl, by decide +kernel, by decide +kernel, by decide +kernel, by decide +kernel, mm_is_of (by decide +kernel) cw81 rfl⟩
theorem cw82 : Cond.code (mm_yn 82) (mm_cb 82) (mm_ml 82) (mm_rt 82) ∈ mm_tb := mm_in 630 (by decide +kernel) rfl
theorem okm82 : mm_okm 82 2 := ⟨cw82, mm_in 8 (by decide +kernel) rfl, by decide +kernel, by decide +kernel, by decide +kernel, by decide +kernel, mm_is_of (by decide +kernel) cw82 rfl⟩
theorem cw83 : Cond.code (mm_yn 83) (mm_cb 83) (mm_ml 83) (mm_rt 83) ∈ mm_tb := mm_in 634 (by decide +kernel) rfl
theorem okm83 : mm_okm 83 2 := ⟨cw83, mm_in 6 (by decide +kernel) rfl, by decide +kernel, by decide +kernel, by decide +kernel, by decide +kernel, mm_is_of (by decide +kernel) cw83 rfl⟩
theorem cw84 : Cond.code (mm_yn 84) (mm_cb 84) (mm_ml 84) (mm_rt 84) ∈ mm_tb := mm_in 638 (by decide +kernel) rfl
theorem okm84 : mm_okm 84 1 := ⟨cw84, mm_in 6 (by decide +kernel) rfl, by decide +kernel, by decide +kernel, by decide +kernel, by decide +kernel, mm_is_of (by decide +kernel) cw84 rfl⟩
theorem cw85 : Cond.code (mm_yn 85) (mm_cb 85) (mm_ml 85) (mm_rt 85) ∈ mm_tb := mm_in 641 (by decide +kernel) rfl
theorem okm85 : mm_okm 85 1 := ⟨cw85, mm_in 18 (by decide +kernel) rfl, by decide +kernel, by decide +kernel, by decide +kernel, by decide +kernel, mm_is_of (by decide +kernel) cw85 rfl⟩
theorem cw86 : Cond.code (mm_yn 86) (mm_cb 86) (mm_ml 86) (mm_rt 86) ∈ mm_tb := mm_in 645 (by decide +kernel) rfl
theorem okm86 : mm_okm 86 2 := ⟨cw86, mm_in 6 (by decide +kernel) rfl, by decide +kernel, by decide +kernel, by decide +kernel, by decide +kernel, mm_is_of (by decide +kernel) cw86 rfl⟩
theorem cw87 : Cond.code (mm_yn 87) (mm_cb 87) (mm_ml 87) (mm_rt 87) ∈ mm_tb := mm_in 649 (by decide +kernel) rfl
theorem okm87 : mm_okm 87 3 := ⟨cw87, mm_in 6 (by decide +kernel) rfl, by decide +kernel, by decide +kernel, by decide +kernel, by decide +kernel, mm_is_of (by decide +kernel) cw87 rfl⟩
theorem cw88 : Cond.code (mm_yn 88) (mm_cb 88) (mm_ml 88) (mm_rt 88) ∈ mm_tb := mm_in 652 (by decide +kernel) rfl
theorem okm88 : mm_okm 88 1 := ⟨cw88, mm_in 8 (by decide +kernel) rfl, by decide +kernel, by decide +kernel, by decide +kernel, by decide +kernel, mm_is_of (by decide +kernel) cw88 rfl⟩
theorem cw89 : Cond.codeWith (mm_yn 89) (mm_cb 89) (mm_ml 89) (mm_rt 89) (mm_ht 89) ∈ mm_tb := mm_in 655 (by decide +kernel) rfl
theorem isw89 : mm_is 89 := mm_is_ofW (by decide +kernel) cw89
theorem cw90 : Cond.code (mm_yn 90) (mm_cb 90) (mm_ml 90) (mm_rt 90) ∈ mm_tb := mm_in 659 (by decide +kernel) rfl
theorem okm90 : mm_okm 90 2 := ⟨cw90, mm_in 1 (by decide +kernel) rfl, by decide +kernel, by decide +kernel, by decide +kernel, by decide +kernel, mm_is_of (by decide +kernel) cw90 rfl⟩
theorem cw91 : Cond.code (mm_yn 91) (mm_cb 91) (mm_ml 91) (mm_rt 91) ∈ mm_tb := mm_in 663 (by decide +kernel) rfl
theorem okm91 : mm_okm 91 2 := ⟨cw91, mm_in 9 (by decide +kernel) rfl, by decide +kernel, by decide +kernel, by decide +kernel, by decide +kernel, mm_is_of (by decide +kernel) cw91 rfl⟩
theorem cw92 : Cond.code (mm_yn 92) (mm_cb 92) (mm_ml 92) (mm_rt 92) ∈ mm_tb := mm_in 667 (by decide +kernel) rfl
theorem okm92 : mm_okm 92 1 := ⟨cw92, mm_in 6 (by decide +kernel) rfl, by decide +kernel, by decide +kernel, by decide +kernel, by decide +kernel, mm_is_of (by decide +kernel) cw92 rfl⟩
theorem cw93 : Cond.code (mm_yn 93) (mm_cb 93) (mm_ml 93) (mm_rt 93) ∈ mm_tb := mm_in 672 (by decide +kernel) rfl
theorem okm93 : mm_okm 93 1 := ⟨cw93, mm_in 6 (by decide +kernel) rfl, by decide +kernel, by decide +kernel, by decide +kernel, by decide +kernel, mm_is_of (by decide +kernel) cw93 rfl⟩
theorem cw94 : Cond.code (mm_yn 94) (mm_cb 94) (mm_ml 94) (mm_rt 94) ∈ mm_tb := mm_in 676 (by decide +kernel) rfl
theorem okm94 : mm_okm 94 2 := ⟨cw94, mm_in 6 (by decide +kernel) rfl, by decide +kernel, by decide +kernel, by decide +kernel, by decide +kernel, mm_is_of (by decide +kernel) cw94 rfl⟩
theorem cw95 : Cond.code (mm_yn 95) (mm_cb 95) (mm_ml 95) (mm_rt 95) ∈ mm_tb := mm_in 685 (by decide +kernel) rfl
theorem okm95 : mm_okm 95 1 := ⟨cw95, mm_in 9 (by decide +kernel) rfl, by decide +kernel, by decide +kernel, by decide +kernel, by decide +kernel, mm_is_of (by decide +kernel) cw95 rfl⟩
theorem cw96 : Cond.code (mm_yn 96) (mm_cb 96) (mm_ml 96) (mm_rt 96) ∈ mm_tb := mm_in 689 (by decide +kernel) rfl
theorem okm96 : mm_okm 96 2 := ⟨cw96, mm_in 6 (by decide +kernel) rfl, by decide +kernel, by decide +kernel, by decide +kernel, by decide +kernel, mm_is_of (by decide +kernel) cw96 rfl⟩
theorem cw97 : Cond.code (mm_yn 97) (mm_cb 97) (mm_ml 97) (mm_rt 97) ∈ mm_tb := mm_in 697 (by decide +kernel) rfl
theorem okm97 : mm_okm 97 0 := ⟨cw97, mm_in 9 (by decide +kernel) rfl, by decide +kernel, by decide +kernel, by decide +kernel, by decide +kernel, mm_is_of (by decide +kernel) cw97 rfl⟩
theorem cw98 : Cond.code (mm_yn 98) (mm_cb 98) (mm_ml 98) (mm_rt 98) ∈ mm_tb := mm_in 701 (by decide +kernel) rfl
theorem okm98 : mm_okm 98 0 := ⟨cw98, mm_in 9 (by decide +kernel) rfl, by decide +kernel, by decide +kernel, by decide +kernel, by decide +kernel, mm_is_of (by decide +kernel) cw98 rfl⟩
theorem cw99 : Cond.code (mm_yn 99) (mm_cb 99) (mm_ml 99) (mm_rt 99) ∈ mm_tb := mm_in 709 (by decide +kernel) rfl
theorem okm99 : mm_okm 99 0 := ⟨cw99, mm_in 10 (by decide +kernel) rfl, by decide +kernel, by decide +kernel, by decide +kernel, by decide +kernel, mm_is_of (by decide +kernel) cw99 rfl⟩
theorem cw100 : Cond.code (mm_yn 100) (mm_cb 100) (mm_ml 100) (mm_rt 100) ∈ mm_tb := mm_in 796 (by decide +kernel) rfl
theorem okm100 : mm_okm 100 0 := ⟨cw100, mm_in 10 (by decide +kernel) rfl, by decide +kernel, by decide +kernel, by decide +kernel, by decide +kernel, mm_is_of (by decide +kernel) cw100 rfl⟩
theorem cw101 : Cond.code (mm_yn 101) (mm_cb 101) (mm_ml 101) (mm_rt 101) ∈ mm_tb := mm_in 800 (by decide +kernel) rfl
theorem okm101 : mm_okm 101 5 := ⟨cw101, mm_in 10 (by decide +kernel) rfl, by decide +kernel, by decide +kernel, by decide +kernel, by decide +kernel, mm_is_of (by decide +kernel) cw101 rfl⟩
theorem cw102 : Cond.code (mm_yn 102) (mm_cb 102) (mm_ml 102) (mm_rt 102) ∈ mm_tb := mm_in 803 (by decide +kernel) rfl
theorem okm102 : mm_okm 102 1 := ⟨cw102, mm_in 10 (by decide +kernel) rfl, by decide +kernel, by decide +kernel, by decide +kernel, by decide +kernel, mm_is_of (by decide +kernel) cw102 rfl⟩
theorem cw103 : Cond.code (mm_yn 103) (mm_cb 103) (mm_ml 103) (mm_rt 103) ∈ mm_tb := mm_in 807 (by decide +kernel) rfl
theorem okm103 : mm_okm 103 2 := ⟨cw103, mm_in 10 (by decide +kernel) rfl, by decide +kernel, by decide +kernel, by decide +kernel, by decide +kernel, mm_is_of (by decide +kernel) cw103 rfl⟩
theorem cw104 : Cond.code (mm_yn 104) (mm_cb 104) (mm_ml 104) (mm_rt 104) ∈ mm_tb := mm_in 810 (by decide +kernel) rfl
theorem okm104 : mm_okm 104 2 := ⟨cw104, mm_in 10 (by decide +kernel) rfl, by decide +kernel, by decide +kernel, by decide +kernel, by decide +kernel, mm_is_of (by decide +kernel) cw104 rfl⟩
theorem cw105 : Cond.code (mm_yn 105) (mm_cb 105) (mm_ml 105) (mm_rt 105) ∈ mm_tb := mm_in 814 (by decide +kernel) rfl
theorem okm105 : mm_okm 105 0 := ⟨cw105, mm_in 10 (by decide +kernel) rfl, by decide +kernel, by decide +kernel, by decide +kernel, by decide +kernel, mm_is_of (by decide +kernel) cw105 rfl⟩
theorem cw106 : Cond.code (mm_yn 106) (mm_cb 106) (mm_ml 106) (mm_rt 106) ∈ mm_tb := mm_in 818 (by decide +kernel) rfl
theorem okm106 : mm_okm 106 3 := ⟨cw106, mm_in 10 (by decide +kernel) rfl, by decide +kernel, by decide +kernel, by decide +kernel, by decide +kernel, mm_is_of (by decide +kernel) cw106 rfl⟩
theorem cw107 : Cond.code (mm_yn 107) (mm_cb 107) (mm_ml 107) (mm_rt 107) ∈ mm_tb := mm_in 822 (by decide +kernel) rfl
theorem okm107 : mm_okm 107 3 := ⟨cw107, mm_in 10 (by decide +kernel) rfl, by decide +kernel, by decide +kernel, by decide +kernel, by decide +kernel, mm_is_of (by decide +kernel) cw107 rfl⟩
theorem cw108 : Cond.code (mm_yn 108) (mm_cb 108) (mm_ml 108) (mm_rt 108) ∈ mm_tb := mm_in 825 (by decide +kernel) rfl
theorem okm108 : mm_okm 108 2 := ⟨cw108, mm_in 10 (by decide +kernel) rfl, by decide +kernel, by decide +kernel, by decide +kernel, by decide +kernel, mm_is_of (by decide +kernel) cw108 rfl⟩
theorem cw109 : Cond.code (mm_yn 109) (mm_cb 109) (mm_ml 109) (mm_rt 109) ∈ mm_tb := mm_in 829 (by decide +kernel) rfl
theorem okm109 : mm_okm 109 2 := ⟨cw109, mm_in 10 (by decide +kernel) rfl, by decide +kernel, by decide +kernel, by decide +kernel, by decide +kernel, mm_is_of (by decide +kernel) cw109 rfl⟩
theorem cw110 : Cond.code (mm_yn 110) (mm_cb 110) (mm_ml 110) (mm_rt 110) ∈ mm_tb := mm_in 833 (by decide +kernel) rfl
theorem okm110 : mm_okm 110 2 := ⟨cw110, mm_in 10 (by decide +kernel) rfl, by decide +kernel, by decide +kernel, by decide +kernel, by decide +kernel, mm_is_of (by decide +kernel) cw110 rfl⟩
theorem cw111 : Cond.code (mm_yn 111) (mm_cb 111) (mm_ml 111) (mm_rt 111) ∈ mm_tb := mm_in 836 (by decide +kernel) rfl
theorem okm111 : mm_okm 111 2 := ⟨cw111, mm_in 10 (by decide +kernel) rfl, by decide +kernel, by decide +kernel, by decide +kernel, by decide +kernel, mm_is_of (by decide +kernel) cw111 rfl⟩
theorem cw112 : Cond.code (mm_yn 112) (mm_cb 112) (mm_ml 112) (mm_rt 112) ∈ mm_tb := mm_in 840 (by decide +kernel) rfl
theorem okm112 : mm_okm 112 0 := ⟨cw112, mm_in 10 (by decide +kernel) rfl, by decide +kernel, by decide +kernel, by decide +kernel, by decide +kernel, mm_is_of (by decide +kernel) cw112 rfl⟩
theorem cw113 : Cond.code (mm_yn 113) (mm_cb 113) (mm_ml 113) (mm_rt 113) ∈ mm_tb := mm_in 844 (by decide +kernel) rfl
theorem okm113 : mm_okm 113 3 := ⟨cw113, mm_in 10 (by decide +kernel) rfl, by decide +kernel, by decide +kernel, by decide +kernel, by decide +kernel, mm_is_of (by decide +kernel) cw113 rfl⟩
theorem cw114 : Cond.code (mm_yn 114) (mm_cb 114) (mm_ml 114) (mm_rt 114) ∈ mm_tb := mm_in 848 (by decide +kernel) rfl
theorem okm114 : mm_okm 114 5 := ⟨cw114, mm_in 10 (by decide +kernel) rfl, by decide +kernel, by decide +kernel, by decide +kernel, by decide +kernel, mm_is_of (by decide +kernel) cw114 rfl⟩
theorem cw115 : Cond.code (mm_yn 115) (mm_cb 115) (mm_ml 115) (mm_rt 115) ∈ mm_tb := mm_in 852 (by decide +kernel) rfl
theorem okm115 : mm_okm 115 2 := ⟨cw115, mm_in 10 (by decide +kernel) rfl, by decide +kernel, by decide +kernel, by decide +kernel, by decide +kernel, mm_is_of (by decide +kernel) cw115 rfl⟩
theorem cw116 : Cond.code (mm_yn 116) (mm_cb 116) (mm_ml 116) (mm_rt 116) ∈ mm_tb := mm_in 856 (by decide +kernel) rfl
theorem okm116 : mm_okm 116 3 := ⟨cw116, mm_in 10 (by decide +kernel) rfl, by decide +kernel, by decide +kernel, by decide +kernel, by decide +kernel, mm_is_of (by decide +kernel) cw116 rfl⟩
theorem cw117 : Cond.code (mm_yn 117) (mm_cb 117) (mm_ml 117) (mm_rt 117) ∈ mm_tb := mm_in 860 (by decide +kernel) rfl
theorem okm117 : mm_okm 117 3 := ⟨cw117, mm_in 10 (by decide +kernel) rfl, by decide +kernel, by decide +kernel, by decide +kernel, by decide +kernel, mm_is_of (by decide +kernel) cw117 rfl⟩
theorem cw118 : Cond.code (mm_yn 118) (mm_cb 118) (mm_ml 118) (mm_rt 118) ∈ mm_tb := mm_in 864 (by decide +kernel) rfl
theorem okm118 : mm_okm 118 0 := ⟨cw118, mm_in 10 (by decide +kernel) rfl, by decide +kernel, by decide +kernel, by decide +kernel, by decide +kernel, mm_is_of (by decide +kernel) cw118 rfl⟩
theorem cw119 : Cond.code (mm_yn 119) (mm_cb 119) (mm_ml 119) (mm_rt 119) ∈ mm_tb := mm_in 868 (by decide +kernel) rfl
theorem okm119 : mm_okm 119 3 := ⟨cw119, mm_in 10 (by decide +kernel) rfl, by decide +kernel, by decide +kernel, by decide +kernel, by decide +kernel, mm_is_of (by decide +kernel) cw119 rfl⟩
theorem cw120 : Cond.code (mm_yn 120) (mm_cb 120) (mm_ml 120) (mm_rt 120) ∈ mm_tb := mm_in 871 (by decide +kernel) rfl
theorem okm120 : mm_okm 120 1 := ⟨cw120, mm_in 10 (by decide +kernel) rfl, by decide +kernel, by decide +kernel, by decide +kernel, by decide +kernel, mm_is_of (by decide +kernel) cw120 rfl⟩
theorem cw121 : Cond.code (mm_yn 121) (mm_cb 121) (mm_ml 121) (mm_rt 121) ∈ mm_tb := mm_in 875 (by decide +kernel) rfl
theorem okm121 : mm_okm 121 4 := ⟨cw121, mm_in 10 (by decide +kernel) rfl, by decide +kernel, by decide +kernel, by decide +kernel, by decide +kernel, mm_is_of (by decide +kernel) cw121 rfl⟩
theorem cw122 : Cond.code (mm_yn 122) (mm_cb 122) (mm_ml 122) (mm_rt 122) ∈ mm_tb := mm_in 879 (by decide +kernel) rfl
theorem okm122 : mm_okm 122 0 := ⟨cw122, mm_in 10 (by decide +kernel) rfl, by decide +kernel, by decide +kernel, by decide +kernel, by decide +kernel, mm_is_of (by decide +kernel) cw122 rfl⟩
theorem cw123 : Cond.code (mm_yn 123) (mm_cb 123) (mm_ml 123) (mm_rt 123) ∈ mm_tb := mm_in 883 (by decide +kernel) rfl
theorem okm123 : mm_okm 123 3 := ⟨cw123, mm_in 10 (by decide +kernel) rfl, by decide +kernel, by decide +kernel, by decide +kernel, by decide +kernel, mm_is_of (by decide +kernel) cw123 rfl⟩
theorem cw124 : Cond.code (mm_yn 124) (mm_cb 124) (mm_ml 124) (mm_rt 124) ∈ mm_tb := mm_in 887 (by decide +kernel) rfl
theorem okm124 : mm_okm 124 3 := ⟨cw124, mm_in 10 (by decide +kernel) rfl, by decide +kernel, by decide +kernel, by decide +kernel, by decide +kernel, mm_is_of (by decide +kernel) cw124 rfl⟩
theorem cw125 : Cond.code (mm_yn 125) (mm_cb 125) (mm_ml 125) (mm_rt 125) ∈ mm_tb := mm_in 891 (by decide +kernel) rfl
theorem okm125 : mm_okm 125 1 := ⟨cw125, mm_in 10 (by decide +kernel) rfl, by decide +kernel, by decide +kernel, by decide +kernel, by decide +kernel, mm_is_of (by decide +kernel) cw125 rfl⟩
theorem cw126 : Cond.code (mm_yn 126) (mm_cb 126) (mm_ml 126) (mm_rt 126) ∈ mm_tb := mm_in 895 (by decide +kernel) rfl
theorem okm126 : mm_okm 126 2 := ⟨cw126, mm_in 10 (by decide +kernel) rfl, by decide +kernel, by decide +kernel, by decide +kernel, by decide +kernel, mm_is_of (by decide +kernel) cw126 rfl⟩
theorem cw127 : Cond.code (mm_yn 127) (mm_cb 127) (mm_ml 127) (mm_rt 127) ∈ mm_tb := mm_in 898 (by decide +kernel) rfl
theorem okm127 : mm_okm 127 1 := ⟨cw127, mm_in 10 (by decide +kernel) rfl, by decide +kernel, by decide +kernel, by decide +kernel, by decide +kernel, mm_is_of (by decide +kernel) cw127 rfl⟩
theorem cw128 : Cond.code (mm_yn 128) (mm_cb 128) (mm_ml 128) (mm_rt 128) ∈ mm_tb := mm_in 902 (by decide +kernel) rfl
theorem okm128 : mm_okm 128 3 := ⟨cw128, mm_in 10 (by decide +kernel) rfl, by decide +kernel, by decide +kernel, by decide +kernel, by decide +kernel, mm_is_of (by decide +kernel) cw128 rfl⟩
theorem cw129 : Cond.code (mm_yn 129) (mm_cb 129) (mm_ml 129) (mm_rt 129) ∈ mm_tb := mm_in 906 (by decide +kernel) rfl
theorem okm129 : mm_okm 129 2 := ⟨cw129, mm_in 10 (by decide +kernel) rfl, by decide +kernel, by decide +kernel, by decide +kernel, by decide +kernel, mm_is_of (by decide +kernel) cw129 rfl⟩
theorem cw130 : Cond.code (mm_yn 130) (mm_cb 130) (mm_ml 130) (mm_rt 130) ∈ mm_tb := mm_in 910 (by decide +kernel) rfl
theorem okm130 : mm_okm 130 1 := ⟨cw130, mm_in 10 (by decide +kernel) rfl, by decide +kernel, by decide +kernel, by decide +kernel, by decide +kernel, mm_is_of (by decide +kernel) cw130 rfl⟩
theorem cw131 : Cond.code (mm_yn 131) (mm_cb 131) (mm_ml 131) (mm_rt 131) ∈ mm_tb := mm_in 914 (by decide +kernel) rfl
theorem okm131 : mm_okm 131 0 := ⟨cw131, mm_in 10 (by decide +kernel) rfl, by decide +kernel, by decide +kernel, by decide +kernel, by decide +kernel, mm_is_of (by decide +kernel) cw131 rfl⟩
theorem cw132 : Cond.code (mm_yn 132) (mm_cb 132) (mm_ml 132) (mm_rt 132) ∈ mm_tb := mm_in 918 (by decide +kernel) rfl
theorem okm132 : mm_okm 132 2 := ⟨cw132, mm_in 10 (by decide +kernel) rfl, by decide +kernel, by decide +kernel, by decide +kernel, by decide +kernel, mm_is_of (by decide +kernel) cw132 rfl⟩
theorem cw133 : Cond.code (mm_yn 133) (mm_cb 133) (mm_ml 133) (mm_rt 133) ∈ mm_tb := mm_in 923 (by decide +kernel) rfl
theorem okm133 : mm_okm 133 0 := ⟨cw133, mm_in 10 (by decide +kernel) rfl, by decide +kernel, by decide +kernel, by decide +kernel, by decide +kernel, mm_is_of (by decide +kernel) cw133 rfl⟩
theorem cw134 : Cond.code (mm_yn 134) (mm_cb 134) (mm_ml 134) (mm_rt 134) ∈ mm_tb := mm_in 927 (by decide +kernel) rfl
theorem okm134 : mm_okm 134 2 := ⟨cw134, mm_in 10 (by decide +kernel) rfl, by decide +kernel, by decide +kernel, by decide +kernel, by decide +kernel, mm_is_of (by decide +kernel) cw134 rfl⟩
theorem cw135 : Cond.code (mm_yn 135) (mm_cb 135) (mm_ml 135) (mm_rt 135) ∈ mm_tb := mm_in 931 (by decide +kernel) rfl
theorem okm135 : mm_okm 135 1 := ⟨cw135, mm_in 10 (by decide +kernel) rfl, by decide +kernel, by decide +kernel, by decide +kernel, by decide +kernel, mm_is_of (by decide +kernel) cw135 rfl⟩
theorem cw136 : Cond.code (mm_yn 136) (mm_cb 136) (mm_ml 136) (mm_rt 136) ∈ mm_tb := mm_in 934 (by decide +kernel) rfl
theorem okm136 : mm_okm 136 2 := ⟨cw136, mm_in 10 (by decide +kernel) rfl, by decide +kernel, by decide +kernel, by decide +kernel, by decide +kernel, mm_is_of (by decide +kernel) cw136 rfl⟩
theorem cw137 : Cond.code (mm_yn 137) (mm_cb 137) (mm_ml 137) (mm_rt 137) ∈ mm_tb := mm_in 938 (by decide +kernel) rfl
theorem okm137 : mm_okm 137 2 := ⟨cw137, mm_in 10 (by decide +kernel) rfl, by decide +kernel, by decide +kernel, by decide +kernel, by decide +kernel, mm_is_of (by decide +kernel) cw137 rfl⟩
theorem cw138 : Cond.code (mm_yn 138) (mm_cb 138) (mm_ml 138) (mm_rt 138) ∈ mm_tb := mm_in 942 (by decide +kernel) rfl
theorem okm138 : mm_okm 138 2 := ⟨cw138, mm_in 10 (by decide +kernel) rfl, by decide +kernel, by decide +kernel, by decide +kernel, by decide +kernel, mm_is_of (by decide +kernel) cw138 rfl⟩
theorem cw139 : Cond.code (mm_yn 139) (mm_cb 139) (mm_ml 139) (mm_rt 139) ∈ mm_tb := mm_in 946 (by decide +kernel) rfl
theorem okm139 : mm_okm 139 0 := ⟨cw139, mm_in 10 (by decide +kernel) rfl, by decide +kernel, by decide +kernel, by decide +kernel, by decide +kernel, mm_is_of (by decide +kernel) cw139 rfl⟩
theorem cw140 : Cond.code (mm_yn 140) (mm_cb 140) (mm_ml 140) (mm_rt 140) ∈ mm_tb := mm_in 950 (by decide +kernel) rfl
theorem okm140 : mm_okm 140 0 := ⟨cw140, mm_in 10 (by decide +kernel) rfl, by decide +kernel, by decide +kernel, by decide +kernel, by decide +kernel, mm_is_of (by decide +kernel) cw140 rfl⟩
theorem cw141 : Cond.code (mm_yn 141) (mm_cb 141) (mm_ml 141) (mm_rt 141) ∈ mm_tb := mm_in 954 (by decide +kernel) rfl
theorem okm141 : mm_okm 141 0 := ⟨cw141, mm_in 10 (by decide +kernel) rfl, by decide +kernel, by decide +kernel, by decide +kernel, by decide +kernel, mm_is_of (by decide +kernel) cw141 rfl⟩
theorem cw142 : Cond.code (mm_yn 142) (mm_cb 142) (mm_ml 142) (mm_rt 142) ∈ mm_tb := mm_in 958 (by decide +kernel) rfl
theorem okm142 : mm_okm 142 0 := ⟨cw142, mm_in 10 (by decide +kernel) rfl, by decide +kernel, by decide +kernel, by decide +kernel, by decide +kernel, mm_is_of (by decide +kernel) cw142 rfl⟩
theorem cw143 : Cond.code (mm_yn 143) (mm_cb 143) (mm_ml 143) (mm_rt 143) ∈ mm_tb := mm_in 962 (by decide +kernel) rfl
theorem okm143 : mm_okm 143 0 := ⟨cw143, mm_in 10 (by decide +kernel) rfl, by decide +kernel, by decide +kernel, by decide +kernel, by decide +kernel, mm_is_of (by decide +kernel) cw143 rfl⟩
theorem cw144 : Cond.code (mm_yn 144) (mm_cb 144) (mm_ml 144) (mm_rt 144) ∈ mm_tb := mm_in 966 (by decide +kernel) rfl
theorem okm144 : mm_okm 144 0 := ⟨cw144, mm_in 10 (by decide +kernel) rfl, by decide +kernel, by decide +kernel, by decide +kernel, by decide +kernel, mm_is_of (by decide +kernel) cw144 rfl⟩
end
section
/-! ===== the same rules in the forms that the printed blocks use ===== -/
section MMF
variable {l : Launch} {X : Nat × (Nat → Int32)} {k d pc : Nat} {L S : List Value} {σ σ1 σ' : mm_S} {mc ms : Nat} {o : mm_O}
theorem mm_ic {n : Int} {v : Int32} (hd : decode (mm_cb k) pc = .ok (.iconst n, 1)) (hv : Int32.ofInt n = v) (hr : mm_Run l X k d (pc + 1) L (.int v :: S) σ mc ms o σ') : mm_Run l X k d pc L S σ mc ms o σ' := by
  subst hv; exact mm_iconst hd hr
theorem mm_bi {n : Int} {v : Int32} (hd : decode (mm_cb k) pc = .ok (.bipush n, 2)) (hv : (Int8.ofInt n).toInt32 = v) (hr : mm_Run l X k d (pc + 2) L (.int v :: S) σ mc ms o σ') : mm_Run l X k d pc L S σ mc ms o σ' := by
  subst hv; exact mm_bipush hd hr
theorem mm_si {n : Int} {v : Int32} (hd : decode (mm_cb k) pc = .ok (.sipush n, 3)) (hv : (Int16.ofInt n).toInt32 = v) (hr : mm_Run l X k d (pc + 3) L (.int v :: S) σ mc ms o σ') : mm_Run l X k d pc L S σ mc ms o σ' := by
  subst hv; exact mm_sipush hd hr
theorem mm_lc {n : Fin 2} {v : Int64} (hd : decode (mm_cb k) pc = .ok (.lconst n, 1)) (hv : Int64.ofNat (n : Nat) = v) (hr : mm_Run l X k d (pc + 1) L (.long v :: S) σ mc ms o σ') : mm_Run l X k d pc L S σ mc ms o σ' := by
  subst hv; exact mm_lconst hd hr
theorem mm_ii {i : Nat} {n : Int} {x c : Int32} (hd : decode (mm_cb k) pc = .ok (.iinc i n, 3)) (hn : Int32.ofInt n = c) (hl : mm_nth L i = .int x) (hi : i < mm_ml k) (hr : mm_Run l X k d (pc + 3) (mm_st1 i (.int (x + c)) L) S σ mc ms o σ') : mm_Run l X k d pc L S σ mc ms o σ' := by
  subst hn; exact mm_iinc hd hl hi hr
theorem mm_minl {idx : Nat} {x y : Int64} (hd : decode (mm_cb k) pc = .ok (.invokestatic idx, 3)) (w1 : Cond.methodLink (mm_yn k).cls idx Lib.MathLoose.min_long.x ∈ mm_tb) (w2 : Cond.static Lib.MathLoose.min_long.x ∈ mm_tb) (w3 : Cond.initialized "java/lang/Math" ∈ mm_tb) (w4 : Cond.code Lib.MathLoose.min_long.x Lib.MathLoose.min_long.code 4 (some .long) ∈ mm_tb)
    (hw : (S.map fun v => v.category).sum ≤ 8) (hr : mm_Run l X k d (pc + 3) L (.long (if y < x then y else x) :: S) σ mc ms o σ') : mm_Run l X k d pc L (.long y :: .long x :: S) σ mc ms o σ' := by
  intro p e R s m args below meth c D A cI cL φ hc H locs cells slots ρ ws ls st hW hP hD hS hL hV h1 h2
  obtain ⟨_, st, rfl, rfl, hV1⟩ := hV.cons
  obtain ⟨_, st, rfl, rfl, hV2⟩ := hV1.cons
  have hts := hc.2.2.2.2.2.2.1
  have a11 := hc.2.2.2.2.2.2.2.2.2.2.1
  have a12 := hc.2.2.2.2.2.2.2.2.2.2.2.1
  exact va_mmin_long hc.1 hc.2.1 (hc.2.2.1.trans hL.1.1.symm) hc.2.2.2.2.2.1 (hts _ w1) (hts _ w2) (hts _ w3) (hts _ w4) (by omega) (by rw [hV2.cats]; omega) (by omega) (by omega) hd (hr hc hW hP hD hS hL ⟨rfl, hV2⟩ h1 h2)
theorem mm_callS0 {k' idx n : Nat} {as S0 : List Value} {v : Option Value} (hd : decode (mm_cb k) pc = .ok (.invokestatic idx, 3)) (hm : mm_okm k' n) (hl : Cond.methodLink (mm_yn k).cls idx (mm_yn k') ∈ mm_tb) (hs : Cond.static (mm_yn k') ∈ mm_tb)
    (hst : S0 = as.reverse ++ S) (hn : as.length = n) (hcat : (as.map fun v => v.category).sum ≤ mm_ml k') (hw : (S.map fun v => v.category).sum ≤ 8)
    (hcall : mm_Call l X k' d as σ 0 0 (.inl v) σ1) (hr : mm_Run l X k (d + 1) (pc + 3) L (v.toList ++ S) σ1 mc ms o σ') : mm_Run l X k (d + 1) pc L S0 σ mc ms o σ' := by
  have h : mm_Run l X k (d + 1) pc L S0 σ (0 + mc) (0 + ms) o σ' := mm_callS hd hm hl hs hst hn hcat hw hcall hr
  rw [Nat.zero_add, Nat.zero_add] at h
  exact h
theorem mm_callSN0 {k' idx n : Nat} {as S0 : List Value} {v : Option Value} {host : String} (hd : decode (mm_cb k) pc = .ok (.invokestatic idx, 3)) (hm : mm_okm k' n) (hl : Cond.methodLinkNest (mm_yn k).cls idx (mm_yn k') host ∈ mm_tb) (hs : Cond.static (mm_yn k') ∈ mm_tb)
    (hst : S0 = as.reverse ++ S) (hn : as.length = n) (hcat : (as.map fun v => v.category).sum ≤ mm_ml k') (hw : (S.map fun v => v.category).sum ≤ 8)
    (hcall : mm_Call l X k' d as σ 0 0 (.inl v) σ1) (hr : mm_Run l X k (d + 1) (pc + 3) L (v.toList ++ S) σ1 mc ms o σ') : mm_Run l X k (d + 1) pc L S0 σ mc ms o σ' := by
  have h : mm_Run l X k (d + 1) pc L S0 σ (0 + mc) (0 + ms) o σ' := mm_callSN hd hm hl hs hst hn hcat hw hcall hr
  rw [Nat.zero_add, Nat.zero_add] at h
  exact h
theorem mm_callV0 {k' idx n p0 ci : Nat} {rs : List Value} {as S0 : List Value} {v : Option Value} (hd : decode (mm_cb k) pc = .ok (.invokevirtual idx, 3)) (hm : mm_okm k' n) (hl : Cond.methodLink (mm_yn k).cls idx (mm_yn k') ∈ mm_tb) (hi : Cond.instanceMethod (mm_yn k') ∈ mm_tb)
    (hse : Cond.selects (mm_yn k').cls (mm_yn k') (mm_yn k') ∈ mm_tb) (hkd : mm_kd σ.1 p0 = (2, ci, rs)) (hci : ∃ T N, mm_cl[ci]? = some ((mm_yn k').cls, T, N))
    (hst : S0 = as.reverse ++ .ref p0 :: S) (hn : as.length = n) (hcat : ((Value.ref p0 :: as).map fun v => v.category).sum ≤ mm_ml k') (hw : (S.map fun v => v.category).sum ≤ 8)
    (hcall : mm_Call l X k' d (.ref p0 :: as) σ 0 0 (.inl v) σ1) (hr : mm_Run l X k (d + 1) (pc + 3) L (v.toList ++ S) σ1 mc ms o σ') : mm_Run l X k (d + 1) pc L S0 σ mc ms o σ' := by
  have h : mm_Run l X k (d + 1) pc L S0 σ (0 + mc) (0 + ms) o σ' := mm_callV hd hm hl hi hse hkd hci hst hn hcat hw hcall hr
  rw [Nat.zero_add, Nat.zero_add] at h
  exact h
end MMF
end
section
/-! ===== links ===== -/
def mm_Λ : List mm_K := [(2, 0, [.ref 1, .ref 5, .ref 8, .ref 11, .ref 13, .ref 17, .ref 19, .ref 24, .null, .null]), (2, 1, [.ref 2, .ref 3, .ref 4]), (0, 6, []), (0, 24, []), (0, 72, []), (2, 2, [.ref 1, .ref 6, .ref 7]), (1, 30, []), (1, 120, []), (2, 3, [.ref 1, .ref 9, .ref 10]), (1, 78, []), (1, 1248, []), (2, 4, [.ref 12, .null]), (0, 121, []), (2, 5, [.ref 1, .ref 5, .ref 14, .ref 15, .ref 16]), (0, 256, []), (0, 256, []), (0, 256, []), (2, 6, [.ref 1, .ref 8, .ref 11, .ref 18]), (0, 39, []), (2, 7, [.ref 20, .ref 21, .ref 22, .ref 23, .null, .null]), (0, 20, []), (0, 20, []), (0, 20, []), (0, 20, []), (2, 8, [.ref 13, .ref 19, .ref 25, .null, .null, .null]), (0, 121, []), (2, 9, [.null, .ref 27, .ref 28, .ref 29, .ref 30, .ref 31, .ref 32, .ref 33, .null, .ref 34, .null, .ref 35, .ref 36, .ref 37, .null, .ref 38, .ref 39, .ref 40, .ref 41, .null, .ref 42, .null, .ref 43, .ref 44, .null, .null, .null]), (0, 6, []), (0, 24, []), (0, 72, []), (1, 36, []), (1, 78, []), (0, 256, []), (0, 256, []), (0, 256, []), (0, 512, []), (0, 512, []), (1, 512, []), (0, 20, []), (0, 20, []), (0, 20, []), (0, 20, []), (0, 20, []), (0, 256, []), (0, 256, []), (1, 1, [])]
theorem oi0_1 : Cond.methodLink (mm_yn 0).cls 1 Lib.objectInit ∈ mm_tb := mm_in 26 (by decide +kernel) rfl
theorem ln0_9 : Cond.methodLinkNest (mm_yn 0).cls 9 (mm_yn 1) "LazyTester" ∈ mm_tb := mm_in 31 (by decide +kernel) rfl
theorem im1 : Cond.instanceMethod (mm_yn 1) ∈ mm_tb := mm_in 32 (by decide +kernel) rfl
theorem fk0_10 : mm_okf 0 10 0 0 := ⟨_, _, _, rfl, by decide +kernel, mm_in 183 (by decide +kernel) rfl⟩
theorem fp0_10 : mm_okp 0 0 0 := fun C T N h => by
  cases h
  exact Or.inr ⟨rfl, rfl, rfl⟩
theorem ln0_18 : Cond.methodLink (mm_yn 0).cls 18 (mm_yn 2) ∈ mm_tb := mm_in 48 (by decide +kernel) rfl
theorem im2 : Cond.instanceMethod (mm_yn 2) ∈ mm_tb := mm_in 49 (by decide +kernel) rfl
theorem fk0_21 : mm_okf 0 21 0 1 := ⟨_, _, _, rfl, by decide +kernel, mm_in 184 (by decide +kernel) rfl⟩
theorem fp0_21 : mm_okp 0 0 1 := fun C T N h => by
  cases h
  exact Or.inr ⟨rfl, rfl, rfl⟩
theorem ln0_27 : Cond.methodLink (mm_yn 0).cls 27 (mm_yn 3) ∈ mm_tb := mm_in 65 (by decide +kernel) rfl
theorem im3 : Cond.instanceMethod (mm_yn 3) ∈ mm_tb := mm_in 66 (by decide +kernel) rfl
theorem fk0_28 : mm_okf 0 28 0 2 := ⟨_, _, _, rfl, by decide +kernel, mm_in 185 (by decide +kernel) rfl⟩
theorem fp0_28 : mm_okp 0 0 2 := fun C T N h => by
  cases h
  exact Or.inr ⟨rfl, rfl, rfl⟩
theorem ln0_34 : Cond.methodLinkNest (mm_yn 0).cls 34 (mm_yn 4) "LazyTester" ∈ mm_tb := mm_in 81 (by decide +kernel) rfl
theorem im4 : Cond.instanceMethod (mm_yn 4) ∈ mm_tb := mm_in 82 (by decide +kernel) rfl
theorem fk0_35 : mm_okf 0 35 0 3 := ⟨_, _, _, rfl, by decide +kernel, mm_in 186 (by decide +kernel) rfl⟩
theorem fp0_35 : mm_okp 0 0 3 := fun C T N h => by
  cases h
  exact Or.inr ⟨rfl, rfl, rfl⟩
theorem ln0_41 : Cond.methodLink (mm_yn 0).cls 41 (mm_yn 5) ∈ mm_tb := mm_in 94 (by decide +kernel) rfl
theorem im5 : Cond.instanceMethod (mm_yn 5) ∈ mm_tb := mm_in 95 (by decide +kernel) rfl
theorem fk0_44 : mm_okf 0 44 0 4 := ⟨_, _, _, rfl, by decide +kernel, mm_in 187 (by decide +kernel) rfl⟩
theorem fp0_44 : mm_okp 0 0 4 := fun C T N h => by
  cases h
  exact Or.inr ⟨rfl, rfl, rfl⟩
theorem ln0_50 : Cond.methodLink (mm_yn 0).cls 50 (mm_yn 6) ∈ mm_tb := mm_in 116 (by decide +kernel) rfl
theorem im6 : Cond.instanceMethod (mm_yn 6) ∈ mm_tb := mm_in 117 (by decide +kernel) rfl
theorem fk0_53 : mm_okf 0 53 0 5 := ⟨_, _, _, rfl, by decide +kernel, mm_in 188 (by decide +kernel) rfl⟩
theorem fp0_53 : mm_okp 0 0 5 := fun C T N h => by
  cases h
  exact Or.inr ⟨rfl, rfl, rfl⟩
theorem ln0_59 : Cond.methodLinkNest (mm_yn 0).cls 59 (mm_yn 7) "LazyTester" ∈ mm_tb := mm_in 135 (by decide +kernel) rfl
theorem im7 : Cond.instanceMethod (mm_yn 7) ∈ mm_tb := mm_in 136 (by decide +kernel) rfl
theorem fk0_60 : mm_okf 0 60 0 6 := ⟨_, _, _, rfl, by decide +kernel, mm_in 189 (by decide +kernel) rfl⟩
theorem fp0_60 : mm_okp 0 0 6 := fun C T N h => by
  cases h
  exact Or.inr ⟨rfl, rfl, rfl⟩
theorem ln0_66 : Cond.methodLink (mm_yn 0).cls 66 (mm_yn 8) ∈ mm_tb := mm_in 160 (by decide +kernel) rfl
theorem im8 : Cond.instanceMethod (mm_yn 8) ∈ mm_tb := mm_in 161 (by decide +kernel) rfl
theorem fk0_69 : mm_okf 0 69 0 7 := ⟨_, _, _, rfl, by decide +kernel, mm_in 190 (by decide +kernel) rfl⟩
theorem fp0_69 : mm_okp 0 0 7 := fun C T N h => by
  cases h
  exact Or.inr ⟨rfl, rfl, rfl⟩
theorem ci0 : Int32.ofInt 0 = 0 := by decide +kernel
theorem fk0_73 : mm_okf 0 73 0 8 := ⟨_, _, _, rfl, by decide +kernel, mm_in 191 (by decide +kernel) rfl⟩
theorem fp0_73 : mm_okp 0 0 8 := fun C T N h => by
  cases h
  exact Or.inl rfl
theorem fk0_77 : mm_okf 0 77 0 9 := ⟨_, _, _, rfl, by decide +kernel, mm_in 192 (by decide +kernel) rfl⟩
theorem fp0_77 : mm_okp 0 0 9 := fun C T N h => by
  cases h
  exact Or.inl rfl
theorem oi1_3 : Cond.methodLink (mm_yn 1).cls 3 Lib.objectInit ∈ mm_tb := mm_in 34 (by decide +kernel) rfl
theorem cb6 : (Int8.ofInt 6).toInt32 = 6 := by decide +kernel
theorem fk1_9 : mm_okf 1 9 1 0 := ⟨_, _, _, rfl, by decide +kernel, mm_in 35 (by decide +kernel) rfl⟩
theorem fp1_9 : mm_okp 1 1 0 := fun C T N h => by
  cases h
  exact Or.inr ⟨rfl, rfl, rfl⟩
theorem cb24 : (Int8.ofInt 24).toInt32 = 24 := by decide +kernel
theorem fk1_15 : mm_okf 1 15 1 1 := ⟨_, _, _, rfl, by decide +kernel, mm_in 36 (by decide +kernel) rfl⟩
theorem fp1_15 : mm_okp 1 1 1 := fun C T N h => by
  cases h
  exact Or.inr ⟨rfl, rfl, rfl⟩
theorem cb72 : (Int8.ofInt 72).toInt32 = 72 := by decide +kernel
theorem fk1_18 : mm_okf 1 18 1 2 := ⟨_, _, _, rfl, by decide +kernel, mm_in 37 (by decide +kernel) rfl⟩
theorem fp1_18 : mm_okp 1 1 2 := fun C T N h => by
  cases h
  exact Or.inr ⟨rfl, rfl, rfl⟩
theorem oi2_3 : Cond.methodLink (mm_yn 2).cls 3 Lib.objectInit ∈ mm_tb := mm_in 51 (by decide +kernel) rfl
theorem cb30 : (Int8.ofInt 30).toInt32 = 30 := by decide +kernel
theorem fk2_11 : mm_okf 2 11 2 1 := ⟨_, _, _, rfl, by decide +kernel, mm_in 53 (by decide +kernel) rfl⟩
theorem fp2_11 : mm_okp 2 2 1 := fun C T N h => by
  cases h
  exact Or.inr ⟨rfl, rfl, rfl⟩
theorem cb120 : (Int8.ofInt 120).toInt32 = 120 := by decide +kernel
theorem fk2_15 : mm_okf 2 15 2 2 := ⟨_, _, _, rfl, by decide +kernel, mm_in 54 (by decide +kernel) rfl⟩
theorem fp2_15 : mm_okp 2 2 2 := fun C T N h => by
  cases h
  exact Or.inr ⟨rfl, rfl, rfl⟩
theorem fk2_18 : mm_okf 2 18 2 0 := ⟨_, _, _, rfl, by decide +kernel, mm_in 52 (by decide +kernel) rfl⟩
theorem fp2_18 : mm_okp 2 2 0 := fun C T N h => by
  cases h
  exact Or.inr ⟨rfl, rfl, rfl⟩
theorem oi3_3 : Cond.methodLink (mm_yn 3).cls 3 Lib.objectInit ∈ mm_tb := mm_in 68 (by decide +kernel) rfl
theorem cb78 : (Int8.ofInt 78).toInt32 = 78 := by decide +kernel
theorem fk3_11 : mm_okf 3 11 3 1 := ⟨_, _, _, rfl, by decide +kernel, mm_in 70 (by decide +kernel) rfl⟩
theorem fp3_11 : mm_okp 3 3 1 := fun C T N h => by
  cases h
  exact Or.inr ⟨rfl, rfl, rfl⟩
theorem cs1248 : (Int16.ofInt 1248).toInt32 = 1248 := by decide +kernel
theorem fk3_15 : mm_okf 3 15 3 2 := ⟨_, _, _, rfl, by decide +kernel, mm_in 71 (by decide +kernel) rfl⟩
theorem fp3_15 : mm_okp 3 3 2 := fun C T N h => by
  cases h
  exact Or.inr ⟨rfl, rfl, rfl⟩
theorem fk3_18 : mm_okf 3 18 3 0 := ⟨_, _, _, rfl, by decide +kernel, mm_in 69 (by decide +kernel) rfl⟩
theorem fp3_18 : mm_okp 3 3 0 := fun C T N h => by
  cases h
  exact Or.inr ⟨rfl, rfl, rfl⟩
theorem oi4_3 : Cond.methodLink (mm_yn 4).cls 3 Lib.objectInit ∈ mm_tb := mm_in 84 (by decide +kernel) rfl
theorem cb121 : (Int8.ofInt 121).toInt32 = 121 := by decide +kernel
theorem fk4_9 : mm_okf 4 9 4 0 := ⟨_, _, _, rfl, by decide +kernel, mm_in 85 (by decide +kernel) rfl⟩
theorem fp4_9 : mm_okp 4 4 0 := fun C T N h => by
  cases h
  exact Or.inr ⟨rfl, rfl, rfl⟩
theorem fk4_15 : mm_okf 4 15 4 1 := ⟨_, _, _, rfl, by decide +kernel, mm_in 86 (by decide +kernel) rfl⟩
theorem fp4_15 : mm_okp 4 4 1 := fun C T N h => by
  cases h
  exact Or.inl rfl
theorem oi5_3 : Cond.methodLink (mm_yn 5).cls 3 Lib.objectInit ∈ mm_tb := mm_in 97 (by decide +kernel) rfl
theorem cs256 : (Int16.ofInt 256).toInt32 = 256 := by decide +kernel
theorem fk5_9 : mm_okf 5 9 5 2 := ⟨_, _, _, rfl, by decide +kernel, mm_in 100 (by decide +kernel) rfl⟩
theorem fp5_9 : mm_okp 5 5 2 := fun C T N h => by
  cases h
  exact Or.inr ⟨rfl, rfl, rfl⟩
theorem fk5_15 : mm_okf 5 15 5 3 := ⟨_, _, _, rfl, by decide +kernel, mm_in 101 (by decide +kernel) rfl⟩
theorem fp5_15 : mm_okp 5 5 3 := fun C T N h => by
  cases h
  exact Or.inr ⟨rfl, rfl, rfl⟩
theorem fk5_18 : mm_okf 5 18 5 4 := ⟨_, _, _, rfl, by decide +kernel, mm_in 102 (by decide +kernel) rfl⟩
theorem fp5_18 : mm_okp 5 5 4 := fun C T N h => by
  cases h
  exact Or.inr ⟨rfl, rfl, rfl⟩
theorem fk5_21 : mm_okf 5 21 5 0 := ⟨_, _, _, rfl, by decide +kernel, mm_in 98 (by decide +kernel) rfl⟩
theorem fp5_21 : mm_okp 5 5 0 := fun C T N h => by
  cases h
  exact Or.inr ⟨rfl, rfl, rfl⟩
theorem fk5_25 : mm_okf 5 25 5 1 := ⟨_, _, _, rfl, by decide +kernel, mm_in 99 (by decide +kernel) rfl⟩
theorem fp5_25 : mm_okp 5 5 1 := fun C T N h => by
  cases h
  exact Or.inr ⟨rfl, rfl, rfl⟩
theorem oi6_3 : Cond.methodLink (mm_yn 6).cls 3 Lib.objectInit ∈ mm_tb := mm_in 119 (by decide +kernel) rfl
theorem cb39 : (Int8.ofInt 39).toInt32 = 39 := by decide +kernel
theorem fk6_9 : mm_okf 6 9 6 3 := ⟨_, _, _, rfl, by decide +kernel, mm_in 123 (by decide +kernel) rfl⟩
theorem fp6_9 : mm_okp 6 6 3 := fun C T N h => by
  cases h
  exact Or.inr ⟨rfl, rfl, rfl⟩
theorem fk6_15 : mm_okf 6 15 6 0 := ⟨_, _, _, rfl, by decide +kernel, mm_in 120 (by decide +kernel) rfl⟩
theorem fp6_15 : mm_okp 6 6 0 := fun C T N h => by
  cases h
  exact Or.inr ⟨rfl, rfl, rfl⟩
theorem fk6_19 : mm_okf 6 19 6 1 := ⟨_, _, _, rfl, by decide +kernel, mm_in 121 (by decide +kernel) rfl⟩
theorem fp6_19 : mm_okp 6 6 1 := fun C T N h => by
  cases h
  exact Or.inr ⟨rfl, rfl, rfl⟩
theorem fk6_23 : mm_okf 6 23 6 2 := ⟨_, _, _, rfl, by decide +kernel, mm_in 122 (by decide +kernel) rfl⟩
theorem fp6_23 : mm_okp 6 6 2 := fun C T N h => by
  cases h
  exact Or.inr ⟨rfl, rfl, rfl⟩
theorem oi7_3 : Cond.methodLink (mm_yn 7).cls 3 Lib.objectInit ∈ mm_tb := mm_in 138 (by decide +kernel) rfl
theorem cb20 : (Int8.ofInt 20).toInt32 = 20 := by decide +kernel
theorem fk7_9 : mm_okf 7 9 7 0 := ⟨_, _, _, rfl, by decide +kernel, mm_in 139 (by decide +kernel) rfl⟩
theorem fp7_9 : mm_okp 7 7 0 := fun C T N h => by
  cases h
  exact Or.inr ⟨rfl, rfl, rfl⟩
theorem fk7_15 : mm_okf 7 15 7 1 := ⟨_, _, _, rfl, by decide +kernel, mm_in 140 (by decide +kernel) rfl⟩
theorem fp7_15 : mm_okp 7 7 1 := fun C T N h => by
  cases h
  exact Or.inr ⟨rfl, rfl, rfl⟩
theorem fk7_18 : mm_okf 7 18 7 2 := ⟨_, _, _, rfl, by decide +kernel, mm_in 141 (by decide +kernel) rfl⟩
theorem fp7_18 : mm_okp 7 7 2 := fun C T N h => by
  cases h
  exact Or.inr ⟨rfl, rfl, rfl⟩
theorem fk7_21 : mm_okf 7 21 7 3 := ⟨_, _, _, rfl, by decide +kernel, mm_in 142 (by decide +kernel) rfl⟩
theorem fp7_21 : mm_okp 7 7 3 := fun C T N h => by
  cases h
  exact Or.inr ⟨rfl, rfl, rfl⟩
theorem fk7_24 : mm_okf 7 24 7 4 := ⟨_, _, _, rfl, by decide +kernel, mm_in 143 (by decide +kernel) rfl⟩
theorem fp7_24 : mm_okp 7 7 4 := fun C T N h => by
  cases h
  exact Or.inl rfl
theorem fk7_28 : mm_okf 7 28 7 5 := ⟨_, _, _, rfl, by decide +kernel, mm_in 144 (by decide +kernel) rfl⟩
theorem fp7_28 : mm_okp 7 7 5 := fun C T N h => by
  cases h
  exact Or.inl rfl
theorem oi8_3 : Cond.methodLink (mm_yn 8).cls 3 Lib.objectInit ∈ mm_tb := mm_in 163 (by decide +kernel) rfl
theorem fk8_9 : mm_okf 8 9 8 2 := ⟨_, _, _, rfl, by decide +kernel, mm_in 166 (by decide +kernel) rfl⟩
theorem fp8_9 : mm_okp 8 8 2 := fun C T N h => by
  cases h
  exact Or.inr ⟨rfl, rfl, rfl⟩
theorem fk8_15 : mm_okf 8 15 8 3 := ⟨_, _, _, rfl, by decide +kernel, mm_in 167 (by decide +kernel) rfl⟩
theorem fp8_15 : mm_okp 8 8 3 := fun C T N h => by
  cases h
  exact Or.inl rfl
theorem fk8_19 : mm_okf 8 19 8 4 := ⟨_, _, _, rfl, by decide +kernel, mm_in 168 (by decide +kernel) rfl⟩
theorem fp8_19 : mm_okp 8 8 4 := fun C T N h => by
  cases h
  exact Or.inl rfl
theorem fk8_22 : mm_okf 8 22 8 5 := ⟨_, _, _, rfl, by decide +kernel, mm_in 169 (by decide +kernel) rfl⟩
theorem fp8_22 : mm_okp 8 8 5 := fun C T N h => by
  cases h
  exact Or.inl rfl
theorem fk8_26 : mm_okf 8 26 8 0 := ⟨_, _, _, rfl, by decide +kernel, mm_in 164 (by decide +kernel) rfl⟩
theorem fp8_26 : mm_okp 8 8 0 := fun C T N h => by
  cases h
  exact Or.inr ⟨rfl, rfl, rfl⟩
theorem fk8_30 : mm_okf 8 30 8 1 := ⟨_, _, _, rfl, by decide +kernel, mm_in 165 (by decide +kernel) rfl⟩
theorem fp8_30 : mm_okp 8 8 1 := fun C T N h => by
  cases h
  exact Or.inr ⟨rfl, rfl, rfl⟩
theorem fk9_35 : mm_okf 9 35 0 3 := ⟨_, _, _, rfl, by decide +kernel, mm_in 186 (by decide +kernel) rfl⟩
theorem ln9_143 : Cond.methodLink (mm_yn 9).cls 143 (mm_yn 10) ∈ mm_tb := mm_in 218 (by decide +kernel) rfl
theorem im10 : Cond.instanceMethod (mm_yn 10) ∈ mm_tb := mm_in 219 (by decide +kernel) rfl
theorem se10 : Cond.selects (mm_yn 10).cls (mm_yn 10) (mm_yn 10) ∈ mm_tb := mm_in 220 (by decide +kernel) rfl
theorem fk10_15 : mm_okf 10 15 4 1 := ⟨_, _, _, rfl, by decide +kernel, mm_in 86 (by decide +kernel) rfl⟩
theorem cim1 : Int32.ofInt (-1) = (-1) := by decide +kernel
theorem fk10_9 : mm_okf 10 9 4 0 := ⟨_, _, _, rfl, by decide +kernel, mm_in 85 (by decide +kernel) rfl⟩
theorem fk11_60 : mm_okf 11 60 0 6 := ⟨_, _, _, rfl, by decide +kernel, mm_in 189 (by decide +kernel) rfl⟩
theorem ln11_171 : Cond.methodLink (mm_yn 11).cls 171 (mm_yn 12) ∈ mm_tb := mm_in 226 (by decide +kernel) rfl
theorem im12 : Cond.instanceMethod (mm_yn 12) ∈ mm_tb := mm_in 227 (by decide +kernel) rfl
theorem se12 : Cond.selects (mm_yn 12).cls (mm_yn 12) (mm_yn 12) ∈ mm_tb := mm_in 228 (by decide +kernel) rfl
theorem fk12_24 : mm_okf 12 24 7 4 := ⟨_, _, _, rfl, by decide +kernel, mm_in 143 (by decide +kernel) rfl⟩
theorem fp12_24 : mm_okp 12 7 4 := fun C T N h => by
  cases h
  exact Or.inl rfl
theorem fk12_28 : mm_okf 12 28 7 5 := ⟨_, _, _, rfl, by decide +kernel, mm_in 144 (by decide +kernel) rfl⟩
theorem fp12_28 : mm_okp 12 7 5 := fun C T N h => by
  cases h
  exact Or.inl rfl
theorem fk13_73 : mm_okf 13 73 0 8 := ⟨_, _, _, rfl, by decide +kernel, mm_in 191 (by decide +kernel) rfl⟩
theorem fk14_77 : mm_okf 14 77 0 9 := ⟨_, _, _, rfl, by decide +kernel, mm_in 192 (by decide +kernel) rfl⟩
theorem ln15_7 : Cond.methodLink (mm_yn 15).cls 7 (mm_yn 16) ∈ mm_tb := mm_in 244 (by decide +kernel) rfl
theorem im16 : Cond.instanceMethod (mm_yn 16) ∈ mm_tb := mm_in 245 (by decide +kernel) rfl
theorem se16 : Cond.selects (mm_yn 16).cls (mm_yn 16) (mm_yn 16) ∈ mm_tb := mm_in 246 (by decide +kernel) rfl
theorem ci1 : Int32.ofInt 1 = 1 := by decide +kernel
theorem ci2 : Int32.ofInt 2 = 2 := by decide +kernel
theorem ci3 : Int32.ofInt 3 = 3 := by decide +kernel
theorem ln16_81 : Cond.methodLink (mm_yn 16).cls 81 (mm_yn 17) ∈ mm_tb := mm_in 248 (by decide +kernel) rfl
theorem st17 : Cond.static (mm_yn 17) ∈ mm_tb := mm_in 249 (by decide +kernel) rfl
theorem ln16_92 : Cond.methodLink (mm_yn 16).cls 92 (mm_yn 18) ∈ mm_tb := mm_in 335 (by decide +kernel) rfl
theorem st18 : Cond.static (mm_yn 18) ∈ mm_tb := mm_in 336 (by decide +kernel) rfl
theorem fk16_10 : mm_okf 16 10 0 0 := ⟨_, _, _, rfl, by decide +kernel, mm_in 183 (by decide +kernel) rfl⟩
theorem ln16_96 : Cond.methodLink (mm_yn 16).cls 96 (mm_yn 19) ∈ mm_tb := mm_in 339 (by decide +kernel) rfl
theorem im19 : Cond.instanceMethod (mm_yn 19) ∈ mm_tb := mm_in 340 (by decide +kernel) rfl
theorem se19 : Cond.selects (mm_yn 19).cls (mm_yn 19) (mm_yn 19) ∈ mm_tb := mm_in 341 (by decide +kernel) rfl
theorem ci4 : Int32.ofInt 4 = 4 := by decide +kernel
theorem ln16_105 : Cond.methodLink (mm_yn 16).cls 105 (mm_yn 20) ∈ mm_tb := mm_in 359 (by decide +kernel) rfl
theorem im20 : Cond.instanceMethod (mm_yn 20) ∈ mm_tb := mm_in 360 (by decide +kernel) rfl
theorem se20 : Cond.selects (mm_yn 20).cls (mm_yn 20) (mm_yn 20) ∈ mm_tb := mm_in 361 (by decide +kernel) rfl
theorem fk16_21 : mm_okf 16 21 0 1 := ⟨_, _, _, rfl, by decide +kernel, mm_in 184 (by decide +kernel) rfl⟩
theorem ln16_109 : Cond.methodLink (mm_yn 16).cls 109 (mm_yn 22) ∈ mm_tb := mm_in 366 (by decide +kernel) rfl
theorem im22 : Cond.instanceMethod (mm_yn 22) ∈ mm_tb := mm_in 367 (by decide +kernel) rfl
theorem se22 : Cond.selects (mm_yn 22).cls (mm_yn 22) (mm_yn 22) ∈ mm_tb := mm_in 368 (by decide +kernel) rfl
theorem fk16_28 : mm_okf 16 28 0 2 := ⟨_, _, _, rfl, by decide +kernel, mm_in 185 (by decide +kernel) rfl⟩
theorem ln16_112 : Cond.methodLink (mm_yn 16).cls 112 (mm_yn 30) ∈ mm_tb := mm_in 402 (by decide +kernel) rfl
theorem im30 : Cond.instanceMethod (mm_yn 30) ∈ mm_tb := mm_in 403 (by decide +kernel) rfl
theorem se30 : Cond.selects (mm_yn 30).cls (mm_yn 30) (mm_yn 30) ∈ mm_tb := mm_in 404 (by decide +kernel) rfl
theorem ln18_81 : Cond.methodLink (mm_yn 18).cls 81 (mm_yn 17) ∈ mm_tb := mm_in 248 (by decide +kernel) rfl
theorem fk19_9 : mm_okf 19 9 1 0 := ⟨_, _, _, rfl, by decide +kernel, mm_in 35 (by decide +kernel) rfl⟩
theorem fk20_9 : mm_okf 20 9 1 0 := ⟨_, _, _, rfl, by decide +kernel, mm_in 35 (by decide +kernel) rfl⟩
theorem ln20_21 : Cond.methodLink (mm_yn 20).cls 21 (mm_yn 21) ∈ mm_tb := mm_in 363 (by decide +kernel) rfl
theorem st21 : Cond.static (mm_yn 21) ∈ mm_tb := mm_in 364 (by decide +kernel) rfl
theorem fk20_15 : mm_okf 20 15 1 1 := ⟨_, _, _, rfl, by decide +kernel, mm_in 36 (by decide +kernel) rfl⟩
theorem fk20_18 : mm_okf 20 18 1 2 := ⟨_, _, _, rfl, by decide +kernel, mm_in 37 (by decide +kernel) rfl⟩
theorem ci5 : Int32.ofInt 5 = 5 := by decide +kernel
theorem ln22_22 : Cond.methodLink (mm_yn 22).cls 22 (mm_yn 23) ∈ mm_tb := mm_in 370 (by decide +kernel) rfl
theorem im23 : Cond.instanceMethod (mm_yn 23) ∈ mm_tb := mm_in 372 (by decide +kernel) rfl
theorem se23 : Cond.selects (mm_yn 23).cls (mm_yn 23) (mm_yn 23) ∈ mm_tb := mm_ins 1 (by decide +kernel) rfl
theorem fk23_18 : mm_okf 23 18 2 0 := ⟨_, _, _, rfl, by decide +kernel, mm_in 52 (by decide +kernel) rfl⟩
theorem ln23_26 : Cond.methodLink (mm_yn 23).cls 26 (mm_yn 19) ∈ mm_tb := mm_in 374 (by decide +kernel) rfl
theorem ln23_32 : Cond.methodLink (mm_yn 23).cls 32 (mm_yn 21) ∈ mm_tb := mm_in 375 (by decide +kernel) rfl
theorem ln23_36 : Cond.methodLink (mm_yn 23).cls 36 (mm_yn 24) ∈ mm_tb := mm_in 376 (by decide +kernel) rfl
theorem im24 : Cond.instanceMethod (mm_yn 24) ∈ mm_tb := mm_in 377 (by decide +kernel) rfl
theorem se24 : Cond.selects (mm_yn 24).cls (mm_yn 24) (mm_yn 24) ∈ mm_tb := mm_in 378 (by decide +kernel) rfl
theorem ln23_39 : Cond.methodLink (mm_yn 23).cls 39 (mm_yn 25) ∈ mm_tb := mm_in 380 (by decide +kernel) rfl
theorem im25 : Cond.instanceMethod (mm_yn 25) ∈ mm_tb := mm_in 381 (by decide +kernel) rfl
theorem se25 : Cond.selects (mm_yn 25).cls (mm_yn 25) (mm_yn 25) ∈ mm_tb := mm_in 382 (by decide +kernel) rfl
theorem fk23_15 : mm_okf 23 15 2 2 := ⟨_, _, _, rfl, by decide +kernel, mm_in 54 (by decide +kernel) rfl⟩
theorem ln23_43 : Cond.methodLinkNest (mm_yn 23).cls 43 (mm_yn 29) "LazyTester" ∈ mm_tb := mm_in 396 (by decide +kernel) rfl
theorem st29 : Cond.static (mm_yn 29) ∈ mm_tb := mm_in 397 (by decide +kernel) rfl
theorem fk23_11 : mm_okf 23 11 2 1 := ⟨_, _, _, rfl, by decide +kernel, mm_in 53 (by decide +kernel) rfl⟩
theorem fk24_15 : mm_okf 24 15 1 1 := ⟨_, _, _, rfl, by decide +kernel, mm_in 36 (by decide +kernel) rfl⟩
theorem fk25_18 : mm_okf 25 18 2 0 := ⟨_, _, _, rfl, by decide +kernel, mm_in 52 (by decide +kernel) rfl⟩
theorem ln25_36 : Cond.methodLink (mm_yn 25).cls 36 (mm_yn 24) ∈ mm_tb := mm_in 376 (by decide +kernel) rfl
theorem ln25_47 : Cond.methodLink (mm_yn 25).cls 47 (mm_yn 26) ∈ mm_tb := mm_in 384 (by decide +kernel) rfl
theorem im26 : Cond.instanceMethod (mm_yn 26) ∈ mm_tb := mm_in 385 (by decide +kernel) rfl
theorem se26 : Cond.selects (mm_yn 26).cls (mm_yn 26) (mm_yn 26) ∈ mm_tb := mm_in 386 (by decide +kernel) rfl
theorem ln25_50 : Cond.methodLink (mm_yn 25).cls 50 (mm_yn 27) ∈ mm_tb := mm_in 388 (by decide +kernel) rfl
theorem im27 : Cond.instanceMethod (mm_yn 27) ∈ mm_tb := mm_in 389 (by decide +kernel) rfl
theorem se27 : Cond.selects (mm_yn 27).cls (mm_yn 27) (mm_yn 27) ∈ mm_tb := mm_in 390 (by decide +kernel) rfl
theorem ln25_54 : Cond.methodLinkNest (mm_yn 25).cls 54 (mm_yn 28) "LazyTester" ∈ mm_tb := mm_in 392 (by decide +kernel) rfl
theorem st28 : Cond.static (mm_yn 28) ∈ mm_tb := mm_in 393 (by decide +kernel) rfl
theorem fk26_18 : mm_okf 26 18 1 2 := ⟨_, _, _, rfl, by decide +kernel, mm_in 37 (by decide +kernel) rfl⟩
theorem fk27_11 : mm_okf 27 11 2 1 := ⟨_, _, _, rfl, by decide +kernel, mm_in 53 (by decide +kernel) rfl⟩
theorem kl28_238 : Cond.constantLong (mm_yn 28).cls 238 1000000000000000 ∈ mm_tb := mm_in 395 (by decide +kernel) rfl
theorem kl29_238 : Cond.constantLong (mm_yn 29).cls 238 1000000000000000 ∈ mm_tb := mm_in 395 (by decide +kernel) rfl
theorem mi29_240 : Cond.methodLink (mm_yn 29).cls 240 Lib.MathLoose.min_long.x ∈ mm_tb := mm_in 399 (by decide +kernel) rfl
theorem cb12 : (Int8.ofInt 12).toInt32 = 12 := by decide +kernel
theorem ln30_22 : Cond.methodLink (mm_yn 30).cls 22 (mm_yn 31) ∈ mm_tb := mm_in 406 (by decide +kernel) rfl
theorem im31 : Cond.instanceMethod (mm_yn 31) ∈ mm_tb := mm_in 408 (by decide +kernel) rfl
theorem se31 : Cond.selects (mm_yn 31).cls (mm_yn 31) (mm_yn 31) ∈ mm_tb := mm_ins 2 (by decide +kernel) rfl
theorem fk31_18 : mm_okf 31 18 3 0 := ⟨_, _, _, rfl, by decide +kernel, mm_in 69 (by decide +kernel) rfl⟩
theorem ln31_26 : Cond.methodLink (mm_yn 31).cls 26 (mm_yn 19) ∈ mm_tb := mm_in 410 (by decide +kernel) rfl
theorem ln31_32 : Cond.methodLink (mm_yn 31).cls 32 (mm_yn 21) ∈ mm_tb := mm_in 411 (by decide +kernel) rfl
theorem ln31_36 : Cond.methodLink (mm_yn 31).cls 36 (mm_yn 24) ∈ mm_tb := mm_in 412 (by decide +kernel) rfl
theorem fk31_15 : mm_okf 31 15 3 2 := ⟨_, _, _, rfl, by decide +kernel, mm_in 71 (by decide +kernel) rfl⟩
theorem cb13 : (Int8.ofInt 13).toInt32 = 13 := by decide +kernel
theorem ln31_39 : Cond.methodLink (mm_yn 31).cls 39 (mm_yn 32) ∈ mm_tb := mm_in 413 (by decide +kernel) rfl
theorem im32 : Cond.instanceMethod (mm_yn 32) ∈ mm_tb := mm_in 415 (by decide +kernel) rfl
theorem se32 : Cond.selects (mm_yn 32).cls (mm_yn 32) (mm_yn 32) ∈ mm_tb := mm_ins 3 (by decide +kernel) rfl
theorem ln31_43 : Cond.methodLink (mm_yn 31).cls 43 (mm_yn 34) ∈ mm_tb := mm_in 422 (by decide +kernel) rfl
theorem im34 : Cond.instanceMethod (mm_yn 34) ∈ mm_tb := mm_in 423 (by decide +kernel) rfl
theorem se34 : Cond.selects (mm_yn 34).cls (mm_yn 34) (mm_yn 34) ∈ mm_tb := mm_in 424 (by decide +kernel) rfl
theorem fk31_11 : mm_okf 31 11 3 1 := ⟨_, _, _, rfl, by decide +kernel, mm_in 70 (by decide +kernel) rfl⟩
theorem fk32_18 : mm_okf 32 18 3 0 := ⟨_, _, _, rfl, by decide +kernel, mm_in 69 (by decide +kernel) rfl⟩
theorem ln32_36 : Cond.methodLink (mm_yn 32).cls 36 (mm_yn 24) ∈ mm_tb := mm_in 412 (by decide +kernel) rfl
theorem ln32_46 : Cond.methodLink (mm_yn 32).cls 46 (mm_yn 26) ∈ mm_tb := mm_in 417 (by decide +kernel) rfl
theorem ln32_49 : Cond.methodLink (mm_yn 32).cls 49 (mm_yn 33) ∈ mm_tb := mm_in 418 (by decide +kernel) rfl
theorem im33 : Cond.instanceMethod (mm_yn 33) ∈ mm_tb := mm_in 419 (by decide +kernel) rfl
theorem se33 : Cond.selects (mm_yn 33).cls (mm_yn 33) (mm_yn 33) ∈ mm_tb := mm_in 420 (by decide +kernel) rfl
theorem ln32_43 : Cond.methodLink (mm_yn 32).cls 43 (mm_yn 34) ∈ mm_tb := mm_in 422 (by decide +kernel) rfl
theorem fk33_11 : mm_okf 33 11 3 1 := ⟨_, _, _, rfl, by decide +kernel, mm_in 70 (by decide +kernel) rfl⟩
theorem fk34_15 : mm_okf 34 15 3 2 := ⟨_, _, _, rfl, by decide +kernel, mm_in 71 (by decide +kernel) rfl⟩
theorem ln35_19 : Cond.methodLink (mm_yn 35).cls 19 (mm_yn 36) ∈ mm_tb := mm_in 429 (by decide +kernel) rfl
theorem im36 : Cond.instanceMethod (mm_yn 36) ∈ mm_tb := mm_in 430 (by decide +kernel) rfl
theorem se36 : Cond.selects (mm_yn 36).cls (mm_yn 36) (mm_yn 36) ∈ mm_tb := mm_in 431 (by decide +kernel) rfl
theorem ln36_81 : Cond.methodLink (mm_yn 36).cls 81 (mm_yn 17) ∈ mm_tb := mm_in 248 (by decide +kernel) rfl
theorem ln36_113 : Cond.methodLink (mm_yn 36).cls 113 (mm_yn 37) ∈ mm_tb := mm_in 433 (by decide +kernel) rfl
theorem st37 : Cond.static (mm_yn 37) ∈ mm_tb := mm_in 434 (by decide +kernel) rfl
theorem fk36_21 : mm_okf 36 21 0 1 := ⟨_, _, _, rfl, by decide +kernel, mm_in 184 (by decide +kernel) rfl⟩
theorem ln36_116 : Cond.methodLink (mm_yn 36).cls 116 (mm_yn 27) ∈ mm_tb := mm_in 437 (by decide +kernel) rfl
theorem ln38_23 : Cond.methodLink (mm_yn 38).cls 23 (mm_yn 39) ∈ mm_tb := mm_in 441 (by decide +kernel) rfl
theorem im39 : Cond.instanceMethod (mm_yn 39) ∈ mm_tb := mm_in 442 (by decide +kernel) rfl
theorem se39 : Cond.selects (mm_yn 39).cls (mm_yn 39) (mm_yn 39) ∈ mm_tb := mm_in 443 (by decide +kernel) rfl
theorem ln39_81 : Cond.methodLink (mm_yn 39).cls 81 (mm_yn 17) ∈ mm_tb := mm_in 248 (by decide +kernel) rfl
theorem ln39_113 : Cond.methodLink (mm_yn 39).cls 113 (mm_yn 37) ∈ mm_tb := mm_in 433 (by decide +kernel) rfl
theorem fk39_21 : mm_okf 39 21 0 1 := ⟨_, _, _, rfl, by decide +kernel, mm_in 184 (by decide +kernel) rfl⟩
theorem ln39_116 : Cond.methodLink (mm_yn 39).cls 116 (mm_yn 27) ∈ mm_tb := mm_in 437 (by decide +kernel) rfl
theorem ln39_120 : Cond.methodLink (mm_yn 39).cls 120 (mm_yn 40) ∈ mm_tb := mm_in 445 (by decide +kernel) rfl
theorem st40 : Cond.static (mm_yn 40) ∈ mm_tb := mm_in 446 (by decide +kernel) rfl
theorem fk39_44 : mm_okf 39 44 0 4 := ⟨_, _, _, rfl, by decide +kernel, mm_in 187 (by decide +kernel) rfl⟩
theorem ln39_124 : Cond.methodLink (mm_yn 39).cls 124 (mm_yn 41) ∈ mm_tb := mm_in 449 (by decide +kernel) rfl
theorem im41 : Cond.instanceMethod (mm_yn 41) ∈ mm_tb := mm_in 450 (by decide +kernel) rfl
theorem se41 : Cond.selects (mm_yn 41).cls (mm_yn 41) (mm_yn 41) ∈ mm_tb := mm_in 451 (by decide +kernel) rfl
theorem fk39_35 : mm_okf 39 35 0 3 := ⟨_, _, _, rfl, by decide +kernel, mm_in 186 (by decide +kernel) rfl⟩
theorem ln39_128 : Cond.methodLink (mm_yn 39).cls 128 (mm_yn 47) ∈ mm_tb := mm_in 477 (by decide +kernel) rfl
theorem im47 : Cond.instanceMethod (mm_yn 47) ∈ mm_tb := mm_in 478 (by decide +kernel) rfl
theorem se47 : Cond.selects (mm_yn 47).cls (mm_yn 47) (mm_yn 47) ∈ mm_tb := mm_in 479 (by decide +kernel) rfl
theorem ln39_132 : Cond.methodLink (mm_yn 39).cls 132 (mm_yn 51) ∈ mm_tb := mm_in 493 (by decide +kernel) rfl
theorem im51 : Cond.instanceMethod (mm_yn 51) ∈ mm_tb := mm_in 494 (by decide +kernel) rfl
theorem se51 : Cond.selects (mm_yn 51).cls (mm_yn 51) (mm_yn 51) ∈ mm_tb := mm_in 495 (by decide +kernel) rfl
theorem fk41_9 : mm_okf 41 9 5 2 := ⟨_, _, _, rfl, by decide +kernel, mm_in 100 (by decide +kernel) rfl⟩
theorem ln41_33 : Cond.methodLink (mm_yn 41).cls 33 (mm_yn 42) ∈ mm_tb := mm_in 453 (by decide +kernel) rfl
theorem im42 : Cond.instanceMethod (mm_yn 42) ∈ mm_tb := mm_in 455 (by decide +kernel) rfl
theorem se42 : Cond.selects (mm_yn 42).cls (mm_yn 42) (mm_yn 42) ∈ mm_tb := mm_ins 4 (by decide +kernel) rfl
theorem fk42_9 : mm_okf 42 9 5 2 := ⟨_, _, _, rfl, by decide +kernel, mm_in 100 (by decide +kernel) rfl⟩
theorem fk42_21 : mm_okf 42 21 5 0 := ⟨_, _, _, rfl, by decide +kernel, mm_in 98 (by decide +kernel) rfl⟩
theorem ln42_37 : Cond.methodLink (mm_yn 42).cls 37 (mm_yn 19) ∈ mm_tb := mm_in 457 (by decide +kernel) rfl
theorem fk42_25 : mm_okf 42 25 5 1 := ⟨_, _, _, rfl, by decide +kernel, mm_in 99 (by decide +kernel) rfl⟩
theorem ln42_43 : Cond.methodLink (mm_yn 42).cls 43 (mm_yn 21) ∈ mm_tb := mm_in 458 (by decide +kernel) rfl
theorem ln42_47 : Cond.methodLink (mm_yn 42).cls 47 (mm_yn 43) ∈ mm_tb := mm_in 459 (by decide +kernel) rfl
theorem im43 : Cond.instanceMethod (mm_yn 43) ∈ mm_tb := mm_in 460 (by decide +kernel) rfl
theorem se43 : Cond.selects (mm_yn 43).cls (mm_yn 43) (mm_yn 43) ∈ mm_tb := mm_in 461 (by decide +kernel) rfl
theorem ln42_53 : Cond.methodLink (mm_yn 42).cls 53 (mm_yn 44) ∈ mm_tb := mm_in 463 (by decide +kernel) rfl
theorem im44 : Cond.instanceMethod (mm_yn 44) ∈ mm_tb := mm_in 465 (by decide +kernel) rfl
theorem se44 : Cond.selects (mm_yn 44).cls (mm_yn 44) (mm_yn 44) ∈ mm_tb := mm_ins 5 (by decide +kernel) rfl
theorem fk42_18 : mm_okf 42 18 5 4 := ⟨_, _, _, rfl, by decide +kernel, mm_in 102 (by decide +kernel) rfl⟩
theorem ln42_57 : Cond.methodLink (mm_yn 42).cls 57 (mm_yn 25) ∈ mm_tb := mm_in 476 (by decide +kernel) rfl
theorem ln42_61 : Cond.methodLink (mm_yn 42).cls 61 (mm_yn 45) ∈ mm_tb := mm_in 468 (by decide +kernel) rfl
theorem st45 : Cond.static (mm_yn 45) ∈ mm_tb := mm_in 469 (by decide +kernel) rfl
theorem ln42_33 : Cond.methodLink (mm_yn 42).cls 33 (mm_yn 42) ∈ mm_tb := mm_in 453 (by decide +kernel) rfl
theorem fk43_15 : mm_okf 43 15 2 2 := ⟨_, _, _, rfl, by decide +kernel, mm_in 54 (by decide +kernel) rfl⟩
theorem fk44_9 : mm_okf 44 9 5 2 := ⟨_, _, _, rfl, by decide +kernel, mm_in 100 (by decide +kernel) rfl⟩
theorem ln44_43 : Cond.methodLink (mm_yn 44).cls 43 (mm_yn 21) ∈ mm_tb := mm_in 458 (by decide +kernel) rfl
theorem fk44_15 : mm_okf 44 15 5 3 := ⟨_, _, _, rfl, by decide +kernel, mm_in 101 (by decide +kernel) rfl⟩
theorem fk44_18 : mm_okf 44 18 5 4 := ⟨_, _, _, rfl, by decide +kernel, mm_in 102 (by decide +kernel) rfl⟩
theorem fk44_21 : mm_okf 44 21 5 0 := ⟨_, _, _, rfl, by decide +kernel, mm_in 98 (by decide +kernel) rfl⟩
theorem ln44_66 : Cond.methodLink (mm_yn 44).cls 66 (mm_yn 24) ∈ mm_tb := mm_in 467 (by decide +kernel) rfl
theorem ln44_61 : Cond.methodLink (mm_yn 44).cls 61 (mm_yn 45) ∈ mm_tb := mm_in 468 (by decide +kernel) rfl
theorem ln44_69 : Cond.methodLink (mm_yn 44).cls 69 (mm_yn 26) ∈ mm_tb := mm_in 471 (by decide +kernel) rfl
theorem ln44_29 : Cond.methodLink (mm_yn 44).cls 29 (mm_yn 46) ∈ mm_tb := mm_in 472 (by decide +kernel) rfl
theorem im46 : Cond.instanceMethod (mm_yn 46) ∈ mm_tb := mm_in 474 (by decide +kernel) rfl
theorem se46 : Cond.selects (mm_yn 46).cls (mm_yn 46) (mm_yn 46) ∈ mm_tb := mm_ins 6 (by decide +kernel) rfl
theorem fk46_15 : mm_okf 46 15 5 3 := ⟨_, _, _, rfl, by decide +kernel, mm_in 101 (by decide +kernel) rfl⟩
theorem cbm2 : (Int8.ofInt (-2)).toInt32 = (-2) := by decide +kernel
theorem fk46_18 : mm_okf 46 18 5 4 := ⟨_, _, _, rfl, by decide +kernel, mm_in 102 (by decide +kernel) rfl⟩
theorem ln47_85 : Cond.methodLink (mm_yn 47).cls 85 (mm_yn 48) ∈ mm_tb := mm_in 481 (by decide +kernel) rfl
theorem im48 : Cond.instanceMethod (mm_yn 48) ∈ mm_tb := mm_in 482 (by decide +kernel) rfl
theorem se48 : Cond.selects (mm_yn 48).cls (mm_yn 48) (mm_yn 48) ∈ mm_tb := mm_in 483 (by decide +kernel) rfl
theorem ln47_90 : Cond.methodLink (mm_yn 47).cls 90 (mm_yn 49) ∈ mm_tb := mm_in 485 (by decide +kernel) rfl
theorem im49 : Cond.instanceMethod (mm_yn 49) ∈ mm_tb := mm_in 487 (by decide +kernel) rfl
theorem se49 : Cond.selects (mm_yn 49).cls (mm_yn 49) (mm_yn 49) ∈ mm_tb := mm_ins 7 (by decide +kernel) rfl
theorem fk48_15 : mm_okf 48 15 4 1 := ⟨_, _, _, rfl, by decide +kernel, mm_in 86 (by decide +kernel) rfl⟩
theorem fp48_15 : mm_okp 48 4 1 := fun C T N h => by
  cases h
  exact Or.inl rfl
theorem fk49_15 : mm_okf 49 15 5 3 := ⟨_, _, _, rfl, by decide +kernel, mm_in 101 (by decide +kernel) rfl⟩
theorem ln49_94 : Cond.methodLink (mm_yn 49).cls 94 (mm_yn 50) ∈ mm_tb := mm_in 489 (by decide +kernel) rfl
theorem im50 : Cond.instanceMethod (mm_yn 50) ∈ mm_tb := mm_in 490 (by decide +kernel) rfl
theorem se50 : Cond.selects (mm_yn 50).cls (mm_yn 50) (mm_yn 50) ∈ mm_tb := mm_in 491 (by decide +kernel) rfl
theorem fk49_18 : mm_okf 49 18 5 4 := ⟨_, _, _, rfl, by decide +kernel, mm_in 102 (by decide +kernel) rfl⟩
theorem ln49_61 : Cond.methodLink (mm_yn 49).cls 61 (mm_yn 45) ∈ mm_tb := mm_in 468 (by decide +kernel) rfl
theorem ln49_90 : Cond.methodLink (mm_yn 49).cls 90 (mm_yn 49) ∈ mm_tb := mm_in 485 (by decide +kernel) rfl
theorem fk50_15 : mm_okf 50 15 4 1 := ⟨_, _, _, rfl, by decide +kernel, mm_in 86 (by decide +kernel) rfl⟩
theorem fk50_9 : mm_okf 50 9 4 0 := ⟨_, _, _, rfl, by decide +kernel, mm_in 85 (by decide +kernel) rfl⟩
theorem fp50_15 : mm_okp 50 4 1 := fun C T N h => by
  cases h
  exact Or.inl rfl
theorem fk51_15 : mm_okf 51 15 4 1 := ⟨_, _, _, rfl, by decide +kernel, mm_in 86 (by decide +kernel) rfl⟩
theorem ln52_27 : Cond.methodLink (mm_yn 52).cls 27 (mm_yn 53) ∈ mm_tb := mm_in 500 (by decide +kernel) rfl
theorem im53 : Cond.instanceMethod (mm_yn 53) ∈ mm_tb := mm_in 501 (by decide +kernel) rfl
theorem se53 : Cond.selects (mm_yn 53).cls (mm_yn 53) (mm_yn 53) ∈ mm_tb := mm_in 502 (by decide +kernel) rfl
theorem ln53_81 : Cond.methodLink (mm_yn 53).cls 81 (mm_yn 17) ∈ mm_tb := mm_in 248 (by decide +kernel) rfl
theorem ln53_136 : Cond.methodLink (mm_yn 53).cls 136 (mm_yn 54) ∈ mm_tb := mm_in 504 (by decide +kernel) rfl
theorem st54 : Cond.static (mm_yn 54) ∈ mm_tb := mm_in 505 (by decide +kernel) rfl
theorem fk53_28 : mm_okf 53 28 0 2 := ⟨_, _, _, rfl, by decide +kernel, mm_in 185 (by decide +kernel) rfl⟩
theorem ln53_139 : Cond.methodLink (mm_yn 53).cls 139 (mm_yn 33) ∈ mm_tb := mm_in 508 (by decide +kernel) rfl
theorem ln55_30 : Cond.methodLink (mm_yn 55).cls 30 (mm_yn 56) ∈ mm_tb := mm_in 512 (by decide +kernel) rfl
theorem im56 : Cond.instanceMethod (mm_yn 56) ∈ mm_tb := mm_in 513 (by decide +kernel) rfl
theorem se56 : Cond.selects (mm_yn 56).cls (mm_yn 56) (mm_yn 56) ∈ mm_tb := mm_in 514 (by decide +kernel) rfl
theorem ln56_81 : Cond.methodLink (mm_yn 56).cls 81 (mm_yn 17) ∈ mm_tb := mm_in 248 (by decide +kernel) rfl
theorem ln56_136 : Cond.methodLink (mm_yn 56).cls 136 (mm_yn 54) ∈ mm_tb := mm_in 504 (by decide +kernel) rfl
theorem fk56_28 : mm_okf 56 28 0 2 := ⟨_, _, _, rfl, by decide +kernel, mm_in 185 (by decide +kernel) rfl⟩
theorem ln56_139 : Cond.methodLink (mm_yn 56).cls 139 (mm_yn 33) ∈ mm_tb := mm_in 508 (by decide +kernel) rfl
theorem ln56_120 : Cond.methodLink (mm_yn 56).cls 120 (mm_yn 40) ∈ mm_tb := mm_in 445 (by decide +kernel) rfl
theorem fk56_53 : mm_okf 56 53 0 5 := ⟨_, _, _, rfl, by decide +kernel, mm_in 188 (by decide +kernel) rfl⟩
theorem ln56_140 : Cond.methodLink (mm_yn 56).cls 140 (mm_yn 57) ∈ mm_tb := mm_in 516 (by decide +kernel) rfl
theorem im57 : Cond.instanceMethod (mm_yn 57) ∈ mm_tb := mm_in 517 (by decide +kernel) rfl
theorem se57 : Cond.selects (mm_yn 57).cls (mm_yn 57) (mm_yn 57) ∈ mm_tb := mm_in 518 (by decide +kernel) rfl
theorem fk56_35 : mm_okf 56 35 0 3 := ⟨_, _, _, rfl, by decide +kernel, mm_in 186 (by decide +kernel) rfl⟩
theorem ln56_132 : Cond.methodLink (mm_yn 56).cls 132 (mm_yn 51) ∈ mm_tb := mm_in 493 (by decide +kernel) rfl
theorem fk57_23 : mm_okf 57 23 6 2 := ⟨_, _, _, rfl, by decide +kernel, mm_in 122 (by decide +kernel) rfl⟩
theorem ln57_27 : Cond.methodLink (mm_yn 57).cls 27 (mm_yn 48) ∈ mm_tb := mm_in 520 (by decide +kernel) rfl
theorem ln57_32 : Cond.methodLink (mm_yn 57).cls 32 (mm_yn 58) ∈ mm_tb := mm_in 521 (by decide +kernel) rfl
theorem im58 : Cond.instanceMethod (mm_yn 58) ∈ mm_tb := mm_in 523 (by decide +kernel) rfl
theorem se58 : Cond.selects (mm_yn 58).cls (mm_yn 58) (mm_yn 58) ∈ mm_tb := mm_ins 8 (by decide +kernel) rfl
theorem fk58_15 : mm_okf 58 15 6 0 := ⟨_, _, _, rfl, by decide +kernel, mm_in 120 (by decide +kernel) rfl⟩
theorem ln58_36 : Cond.methodLink (mm_yn 58).cls 36 (mm_yn 19) ∈ mm_tb := mm_in 525 (by decide +kernel) rfl
theorem fk58_19 : mm_okf 58 19 6 1 := ⟨_, _, _, rfl, by decide +kernel, mm_in 121 (by decide +kernel) rfl⟩
theorem ln58_42 : Cond.methodLink (mm_yn 58).cls 42 (mm_yn 21) ∈ mm_tb := mm_in 526 (by decide +kernel) rfl
theorem ln58_46 : Cond.methodLink (mm_yn 58).cls 46 (mm_yn 34) ∈ mm_tb := mm_in 527 (by decide +kernel) rfl
theorem fk58_23 : mm_okf 58 23 6 2 := ⟨_, _, _, rfl, by decide +kernel, mm_in 122 (by decide +kernel) rfl⟩
theorem ln58_52 : Cond.methodLink (mm_yn 58).cls 52 (mm_yn 50) ∈ mm_tb := mm_in 528 (by decide +kernel) rfl
theorem ln58_56 : Cond.methodLink (mm_yn 58).cls 56 (mm_yn 59) ∈ mm_tb := mm_in 529 (by decide +kernel) rfl
theorem im59 : Cond.instanceMethod (mm_yn 59) ∈ mm_tb := mm_in 531 (by decide +kernel) rfl
theorem se59 : Cond.selects (mm_yn 59).cls (mm_yn 59) (mm_yn 59) ∈ mm_tb := mm_ins 9 (by decide +kernel) rfl
theorem ln59_59 : Cond.methodLink (mm_yn 59).cls 59 (mm_yn 60) ∈ mm_tb := mm_in 533 (by decide +kernel) rfl
theorem im60 : Cond.instanceMethod (mm_yn 60) ∈ mm_tb := mm_in 535 (by decide +kernel) rfl
theorem se60 : Cond.selects (mm_yn 60).cls (mm_yn 60) (mm_yn 60) ∈ mm_tb := mm_ins 10 (by decide +kernel) rfl
theorem fk59_15 : mm_okf 59 15 6 0 := ⟨_, _, _, rfl, by decide +kernel, mm_in 120 (by decide +kernel) rfl⟩
theorem ln59_63 : Cond.methodLink (mm_yn 59).cls 63 (mm_yn 24) ∈ mm_tb := mm_in 537 (by decide +kernel) rfl
theorem ln59_66 : Cond.methodLink (mm_yn 59).cls 66 (mm_yn 62) ∈ mm_tb := mm_in 544 (by decide +kernel) rfl
theorem im62 : Cond.instanceMethod (mm_yn 62) ∈ mm_tb := mm_in 546 (by decide +kernel) rfl
theorem se62 : Cond.selects (mm_yn 62).cls (mm_yn 62) (mm_yn 62) ∈ mm_tb := mm_ins 12 (by decide +kernel) rfl
theorem ln59_69 : Cond.methodLink (mm_yn 59).cls 69 (mm_yn 26) ∈ mm_tb := mm_in 538 (by decide +kernel) rfl
theorem fk59_9 : mm_okf 59 9 6 3 := ⟨_, _, _, rfl, by decide +kernel, mm_in 123 (by decide +kernel) rfl⟩
theorem ln59_32 : Cond.methodLink (mm_yn 59).cls 32 (mm_yn 58) ∈ mm_tb := mm_in 521 (by decide +kernel) rfl
theorem fk60_15 : mm_okf 60 15 6 0 := ⟨_, _, _, rfl, by decide +kernel, mm_in 120 (by decide +kernel) rfl⟩
theorem ln60_63 : Cond.methodLink (mm_yn 60).cls 63 (mm_yn 24) ∈ mm_tb := mm_in 537 (by decide +kernel) rfl
theorem ln60_69 : Cond.methodLink (mm_yn 60).cls 69 (mm_yn 26) ∈ mm_tb := mm_in 538 (by decide +kernel) rfl
theorem ln60_72 : Cond.methodLink (mm_yn 60).cls 72 (mm_yn 61) ∈ mm_tb := mm_in 539 (by decide +kernel) rfl
theorem im61 : Cond.instanceMethod (mm_yn 61) ∈ mm_tb := mm_in 541 (by decide +kernel) rfl
theorem se61 : Cond.selects (mm_yn 61).cls (mm_yn 61) (mm_yn 61) ∈ mm_tb := mm_ins 11 (by decide +kernel) rfl
theorem fk60_9 : mm_okf 60 9 6 3 := ⟨_, _, _, rfl, by decide +kernel, mm_in 123 (by decide +kernel) rfl⟩
theorem fk60_19 : mm_okf 60 19 6 1 := ⟨_, _, _, rfl, by decide +kernel, mm_in 121 (by decide +kernel) rfl⟩
theorem ln60_76 : Cond.methodLink (mm_yn 60).cls 76 (mm_yn 33) ∈ mm_tb := mm_in 543 (by decide +kernel) rfl
theorem fk61_19 : mm_okf 61 19 6 1 := ⟨_, _, _, rfl, by decide +kernel, mm_in 121 (by decide +kernel) rfl⟩
theorem fk61_15 : mm_okf 61 15 6 0 := ⟨_, _, _, rfl, by decide +kernel, mm_in 120 (by decide +kernel) rfl⟩
theorem ln61_69 : Cond.methodLink (mm_yn 61).cls 69 (mm_yn 26) ∈ mm_tb := mm_in 538 (by decide +kernel) rfl
theorem ln61_76 : Cond.methodLink (mm_yn 61).cls 76 (mm_yn 33) ∈ mm_tb := mm_in 543 (by decide +kernel) rfl
theorem ln61_46 : Cond.methodLink (mm_yn 61).cls 46 (mm_yn 34) ∈ mm_tb := mm_in 527 (by decide +kernel) rfl
theorem fk62_15 : mm_okf 62 15 6 0 := ⟨_, _, _, rfl, by decide +kernel, mm_in 120 (by decide +kernel) rfl⟩
theorem ln62_63 : Cond.methodLink (mm_yn 62).cls 63 (mm_yn 24) ∈ mm_tb := mm_in 537 (by decide +kernel) rfl
theorem fk62_19 : mm_okf 62 19 6 1 := ⟨_, _, _, rfl, by decide +kernel, mm_in 121 (by decide +kernel) rfl⟩
theorem ln62_69 : Cond.methodLink (mm_yn 62).cls 69 (mm_yn 26) ∈ mm_tb := mm_in 538 (by decide +kernel) rfl
theorem fk62_9 : mm_okf 62 9 6 3 := ⟨_, _, _, rfl, by decide +kernel, mm_in 123 (by decide +kernel) rfl⟩
theorem ln62_76 : Cond.methodLink (mm_yn 62).cls 76 (mm_yn 33) ∈ mm_tb := mm_in 543 (by decide +kernel) rfl
theorem ln63_33 : Cond.methodLink (mm_yn 63).cls 33 (mm_yn 64) ∈ mm_tb := mm_in 551 (by decide +kernel) rfl
theorem im64 : Cond.instanceMethod (mm_yn 64) ∈ mm_tb := mm_in 552 (by decide +kernel) rfl
theorem se64 : Cond.selects (mm_yn 64).cls (mm_yn 64) (mm_yn 64) ∈ mm_tb := mm_in 553 (by decide +kernel) rfl
theorem ln64_146 : Cond.methodLink (mm_yn 64).cls 146 (mm_yn 65) ∈ mm_tb := mm_in 555 (by decide +kernel) rfl
theorem st65 : Cond.static (mm_yn 65) ∈ mm_tb := mm_in 556 (by decide +kernel) rfl
theorem ln64_151 : Cond.methodLink (mm_yn 64).cls 151 (mm_yn 67) ∈ mm_tb := mm_in 563 (by decide +kernel) rfl
theorem im67 : Cond.instanceMethod (mm_yn 67) ∈ mm_tb := mm_in 565 (by decide +kernel) rfl
theorem se67 : Cond.selects (mm_yn 67).cls (mm_yn 67) (mm_yn 67) ∈ mm_tb := mm_ins 13 (by decide +kernel) rfl
theorem fk64_60 : mm_okf 64 60 0 6 := ⟨_, _, _, rfl, by decide +kernel, mm_in 189 (by decide +kernel) rfl⟩
theorem ln64_154 : Cond.methodLink (mm_yn 64).cls 154 (mm_yn 69) ∈ mm_tb := mm_in 572 (by decide +kernel) rfl
theorem im69 : Cond.instanceMethod (mm_yn 69) ∈ mm_tb := mm_in 573 (by decide +kernel) rfl
theorem se69 : Cond.selects (mm_yn 69).cls (mm_yn 69) (mm_yn 69) ∈ mm_tb := mm_in 574 (by decide +kernel) rfl
theorem ln65_223 : Cond.methodLink (mm_yn 65).cls 223 (mm_yn 66) ∈ mm_tb := mm_in 558 (by decide +kernel) rfl
theorem st66 : Cond.static (mm_yn 66) ∈ mm_tb := mm_in 559 (by decide +kernel) rfl
theorem fk67_60 : mm_okf 67 60 0 6 := ⟨_, _, _, rfl, by decide +kernel, mm_in 189 (by decide +kernel) rfl⟩
theorem ln67_231 : Cond.methodLink (mm_yn 67).cls 231 (mm_yn 68) ∈ mm_tb := mm_in 567 (by decide +kernel) rfl
theorem im68 : Cond.instanceMethod (mm_yn 68) ∈ mm_tb := mm_in 568 (by decide +kernel) rfl
theorem se68 : Cond.selects (mm_yn 68).cls (mm_yn 68) (mm_yn 68) ∈ mm_tb := mm_in 569 (by decide +kernel) rfl
theorem fk68_24 : mm_okf 68 24 7 4 := ⟨_, _, _, rfl, by decide +kernel, mm_in 143 (by decide +kernel) rfl⟩
theorem fk69_9 : mm_okf 69 9 7 0 := ⟨_, _, _, rfl, by decide +kernel, mm_in 139 (by decide +kernel) rfl⟩
theorem fk69_24 : mm_okf 69 24 7 4 := ⟨_, _, _, rfl, by decide +kernel, mm_in 143 (by decide +kernel) rfl⟩
theorem fk69_15 : mm_okf 69 15 7 1 := ⟨_, _, _, rfl, by decide +kernel, mm_in 140 (by decide +kernel) rfl⟩
theorem fk69_18 : mm_okf 69 18 7 2 := ⟨_, _, _, rfl, by decide +kernel, mm_in 141 (by decide +kernel) rfl⟩
theorem fk69_21 : mm_okf 69 21 7 3 := ⟨_, _, _, rfl, by decide +kernel, mm_in 142 (by decide +kernel) rfl⟩
theorem fk69_28 : mm_okf 69 28 7 5 := ⟨_, _, _, rfl, by decide +kernel, mm_in 144 (by decide +kernel) rfl⟩
theorem fp69_24 : mm_okp 69 7 4 := fun C T N h => by
  cases h
  exact Or.inl rfl
theorem fp69_28 : mm_okp 69 7 5 := fun C T N h => by
  cases h
  exact Or.inl rfl
theorem ln70_37 : Cond.methodLink (mm_yn 70).cls 37 (mm_yn 71) ∈ mm_tb := mm_in 579 (by decide +kernel) rfl
theorem im71 : Cond.instanceMethod (mm_yn 71) ∈ mm_tb := mm_in 580 (by decide +kernel) rfl
theorem se71 : Cond.selects (mm_yn 71).cls (mm_yn 71) (mm_yn 71) ∈ mm_tb := mm_in 581 (by decide +kernel) rfl
theorem ln71_146 : Cond.methodLink (mm_yn 71).cls 146 (mm_yn 65) ∈ mm_tb := mm_in 555 (by decide +kernel) rfl
theorem ln71_151 : Cond.methodLink (mm_yn 71).cls 151 (mm_yn 67) ∈ mm_tb := mm_in 563 (by decide +kernel) rfl
theorem fk71_60 : mm_okf 71 60 0 6 := ⟨_, _, _, rfl, by decide +kernel, mm_in 189 (by decide +kernel) rfl⟩
theorem ln71_154 : Cond.methodLink (mm_yn 71).cls 154 (mm_yn 69) ∈ mm_tb := mm_in 572 (by decide +kernel) rfl
theorem ln72_40 : Cond.methodLink (mm_yn 72).cls 40 (mm_yn 73) ∈ mm_tb := mm_in 586 (by decide +kernel) rfl
theorem im73 : Cond.instanceMethod (mm_yn 73) ∈ mm_tb := mm_in 587 (by decide +kernel) rfl
theorem se73 : Cond.selects (mm_yn 73).cls (mm_yn 73) (mm_yn 73) ∈ mm_tb := mm_in 588 (by decide +kernel) rfl
theorem fk73_60 : mm_okf 73 60 0 6 := ⟨_, _, _, rfl, by decide +kernel, mm_in 189 (by decide +kernel) rfl⟩
theorem ln73_160 : Cond.methodLink (mm_yn 73).cls 160 (mm_yn 74) ∈ mm_tb := mm_in 591 (by decide +kernel) rfl
theorem im74 : Cond.instanceMethod (mm_yn 74) ∈ mm_tb := mm_in 592 (by decide +kernel) rfl
theorem se74 : Cond.selects (mm_yn 74).cls (mm_yn 74) (mm_yn 74) ∈ mm_tb := mm_in 593 (by decide +kernel) rfl
theorem ln73_163 : Cond.methodLink (mm_yn 73).cls 163 (mm_yn 75) ∈ mm_tb := mm_in 595 (by decide +kernel) rfl
theorem st75 : Cond.static (mm_yn 75) ∈ mm_tb := mm_in 596 (by decide +kernel) rfl
theorem ln73_151 : Cond.methodLink (mm_yn 73).cls 151 (mm_yn 67) ∈ mm_tb := mm_in 563 (by decide +kernel) rfl
theorem ln73_168 : Cond.methodLink (mm_yn 73).cls 168 (mm_yn 76) ∈ mm_tb := mm_in 599 (by decide +kernel) rfl
theorem im76 : Cond.instanceMethod (mm_yn 76) ∈ mm_tb := mm_in 600 (by decide +kernel) rfl
theorem se76 : Cond.selects (mm_yn 76).cls (mm_yn 76) (mm_yn 76) ∈ mm_tb := mm_in 601 (by decide +kernel) rfl
theorem fk74_28 : mm_okf 74 28 7 5 := ⟨_, _, _, rfl, by decide +kernel, mm_in 144 (by decide +kernel) rfl⟩
theorem fk76_21 : mm_okf 76 21 7 3 := ⟨_, _, _, rfl, by decide +kernel, mm_in 142 (by decide +kernel) rfl⟩
theorem fk76_28 : mm_okf 76 28 7 5 := ⟨_, _, _, rfl, by decide +kernel, mm_in 144 (by decide +kernel) rfl⟩
theorem ln76_31 : Cond.methodLink (mm_yn 76).cls 31 (mm_yn 75) ∈ mm_tb := mm_in 603 (by decide +kernel) rfl
theorem fp76_28 : mm_okp 76 7 5 := fun C T N h => by
  cases h
  exact Or.inl rfl
theorem ln76_35 : Cond.methodLink (mm_yn 76).cls 35 (mm_yn 69) ∈ mm_tb := mm_in 604 (by decide +kernel) rfl
theorem ln77_44 : Cond.methodLink (mm_yn 77).cls 44 (mm_yn 78) ∈ mm_tb := mm_in 608 (by decide +kernel) rfl
theorem im78 : Cond.instanceMethod (mm_yn 78) ∈ mm_tb := mm_in 609 (by decide +kernel) rfl
theorem se78 : Cond.selects (mm_yn 78).cls (mm_yn 78) (mm_yn 78) ∈ mm_tb := mm_in 610 (by decide +kernel) rfl
theorem ln78_81 : Cond.methodLink (mm_yn 78).cls 81 (mm_yn 17) ∈ mm_tb := mm_in 248 (by decide +kernel) rfl
theorem ln78_113 : Cond.methodLink (mm_yn 78).cls 113 (mm_yn 37) ∈ mm_tb := mm_in 433 (by decide +kernel) rfl
theorem ln78_174 : Cond.methodLink (mm_yn 78).cls 174 (mm_yn 79) ∈ mm_tb := mm_in 612 (by decide +kernel) rfl
theorem im79 : Cond.instanceMethod (mm_yn 79) ∈ mm_tb := mm_in 614 (by decide +kernel) rfl
theorem se79 : Cond.selects (mm_yn 79).cls (mm_yn 79) (mm_yn 79) ∈ mm_tb := mm_ins 14 (by decide +kernel) rfl
theorem fk78_21 : mm_okf 78 21 0 1 := ⟨_, _, _, rfl, by decide +kernel, mm_in 184 (by decide +kernel) rfl⟩
theorem ln78_116 : Cond.methodLink (mm_yn 78).cls 116 (mm_yn 27) ∈ mm_tb := mm_in 437 (by decide +kernel) rfl
theorem kl78_177 : Cond.constantLong (mm_yn 78).cls 177 1000 ∈ mm_tb := mm_in 617 (by decide +kernel) rfl
theorem ln78_181 : Cond.methodLink (mm_yn 78).cls 181 (mm_yn 80) ∈ mm_tb := mm_in 619 (by decide +kernel) rfl
theorem im80 : Cond.instanceMethod (mm_yn 80) ∈ mm_tb := mm_in 621 (by decide +kernel) rfl
theorem se80 : Cond.selects (mm_yn 80).cls (mm_yn 80) (mm_yn 80) ∈ mm_tb := mm_ins 15 (by decide +kernel) rfl
theorem fk78_73 : mm_okf 78 73 0 8 := ⟨_, _, _, rfl, by decide +kernel, mm_in 191 (by decide +kernel) rfl⟩
theorem fp78_73 : mm_okp 78 0 8 := fun C T N h => by
  cases h
  exact Or.inl rfl
theorem fk78_77 : mm_okf 78 77 0 9 := ⟨_, _, _, rfl, by decide +kernel, mm_in 192 (by decide +kernel) rfl⟩
theorem fp78_77 : mm_okp 78 0 9 := fun C T N h => by
  cases h
  exact Or.inl rfl
theorem fk78_44 : mm_okf 78 44 0 4 := ⟨_, _, _, rfl, by decide +kernel, mm_in 187 (by decide +kernel) rfl⟩
theorem fk78_35 : mm_okf 78 35 0 3 := ⟨_, _, _, rfl, by decide +kernel, mm_in 186 (by decide +kernel) rfl⟩
theorem ln78_128 : Cond.methodLink (mm_yn 78).cls 128 (mm_yn 47) ∈ mm_tb := mm_in 477 (by decide +kernel) rfl
theorem fk79_60 : mm_okf 79 60 0 6 := ⟨_, _, _, rfl, by decide +kernel, mm_in 189 (by decide +kernel) rfl⟩
theorem ln79_160 : Cond.methodLink (mm_yn 79).cls 160 (mm_yn 74) ∈ mm_tb := mm_in 591 (by decide +kernel) rfl
theorem fk80_44 : mm_okf 80 44 0 4 := ⟨_, _, _, rfl, by decide +kernel, mm_in 187 (by decide +kernel) rfl⟩
theorem ln80_124 : Cond.methodLink (mm_yn 80).cls 124 (mm_yn 41) ∈ mm_tb := mm_in 449 (by decide +kernel) rfl
theorem fk80_60 : mm_okf 80 60 0 6 := ⟨_, _, _, rfl, by decide +kernel, mm_in 189 (by decide +kernel) rfl⟩
theorem ln80_206 : Cond.methodLink (mm_yn 80).cls 206 (mm_yn 81) ∈ mm_tb := mm_in 623 (by decide +kernel) rfl
theorem im81 : Cond.instanceMethod (mm_yn 81) ∈ mm_tb := mm_in 624 (by decide +kernel) rfl
theorem se81 : Cond.selects (mm_yn 81).cls (mm_yn 81) (mm_yn 81) ∈ mm_tb := mm_in 625 (by decide +kernel) rfl
theorem fk81_21 : mm_okf 81 21 7 3 := ⟨_, _, _, rfl, by decide +kernel, mm_in 142 (by decide +kernel) rfl⟩
theorem fk81_28 : mm_okf 81 28 7 5 := ⟨_, _, _, rfl, by decide +kernel, mm_in 144 (by decide +kernel) rfl⟩
theorem ln81_39 : Cond.methodLink (mm_yn 81).cls 39 (mm_yn 82) ∈ mm_tb := mm_in 627 (by decide +kernel) rfl
theorem im82 : Cond.instanceMethod (mm_yn 82) ∈ mm_tb := mm_in 629 (by decide +kernel) rfl
theorem se82 : Cond.selects (mm_yn 82).cls (mm_yn 82) (mm_yn 82) ∈ mm_tb := mm_ins 16 (by decide +kernel) rfl
theorem fk82_15 : mm_okf 82 15 7 1 := ⟨_, _, _, rfl, by decide +kernel, mm_in 140 (by decide +kernel) rfl⟩
theorem fk82_18 : mm_okf 82 18 7 2 := ⟨_, _, _, rfl, by decide +kernel, mm_in 141 (by decide +kernel) rfl⟩
theorem fk82_9 : mm_okf 82 9 7 0 := ⟨_, _, _, rfl, by decide +kernel, mm_in 139 (by decide +kernel) rfl⟩
theorem ln82_43 : Cond.methodLink (mm_yn 82).cls 43 (mm_yn 83) ∈ mm_tb := mm_in 631 (by decide +kernel) rfl
theorem im83 : Cond.instanceMethod (mm_yn 83) ∈ mm_tb := mm_in 632 (by decide +kernel) rfl
theorem se83 : Cond.selects (mm_yn 83).cls (mm_yn 83) (mm_yn 83) ∈ mm_tb := mm_in 633 (by decide +kernel) rfl
theorem ln82_49 : Cond.methodLink (mm_yn 82).cls 49 (mm_yn 86) ∈ mm_tb := mm_in 642 (by decide +kernel) rfl
theorem im86 : Cond.instanceMethod (mm_yn 86) ∈ mm_tb := mm_in 643 (by decide +kernel) rfl
theorem se86 : Cond.selects (mm_yn 86).cls (mm_yn 86) (mm_yn 86) ∈ mm_tb := mm_in 644 (by decide +kernel) rfl
theorem ln82_39 : Cond.methodLink (mm_yn 82).cls 39 (mm_yn 82) ∈ mm_tb := mm_in 627 (by decide +kernel) rfl
theorem ln82_52 : Cond.methodLink (mm_yn 82).cls 52 (mm_yn 88) ∈ mm_tb := mm_in 650 (by decide +kernel) rfl
theorem st88 : Cond.static (mm_yn 88) ∈ mm_tb := mm_in 651 (by decide +kernel) rfl
theorem ln83_97 : Cond.methodLink (mm_yn 83).cls 97 (mm_yn 84) ∈ mm_tb := mm_in 635 (by decide +kernel) rfl
theorem im84 : Cond.instanceMethod (mm_yn 84) ∈ mm_tb := mm_in 637 (by decide +kernel) rfl
theorem se84 : Cond.selects (mm_yn 84).cls (mm_yn 84) (mm_yn 84) ∈ mm_tb := mm_ins 17 (by decide +kernel) rfl
theorem fk83_15 : mm_okf 83 15 5 3 := ⟨_, _, _, rfl, by decide +kernel, mm_in 101 (by decide +kernel) rfl⟩
theorem ln84_72 : Cond.methodLink (mm_yn 84).cls 72 (mm_yn 85) ∈ mm_tb := mm_in 639 (by decide +kernel) rfl
theorem st85 : Cond.static (mm_yn 85) ∈ mm_tb := mm_in 640 (by decide +kernel) rfl
theorem fk84_15 : mm_okf 84 15 5 3 := ⟨_, _, _, rfl, by decide +kernel, mm_in 101 (by decide +kernel) rfl⟩
theorem fk84_18 : mm_okf 84 18 5 4 := ⟨_, _, _, rfl, by decide +kernel, mm_in 102 (by decide +kernel) rfl⟩
theorem ln86_97 : Cond.methodLink (mm_yn 86).cls 97 (mm_yn 84) ∈ mm_tb := mm_in 635 (by decide +kernel) rfl
theorem ln86_100 : Cond.methodLink (mm_yn 86).cls 100 (mm_yn 87) ∈ mm_tb := mm_in 646 (by decide +kernel) rfl
theorem im87 : Cond.instanceMethod (mm_yn 87) ∈ mm_tb := mm_in 648 (by decide +kernel) rfl
theorem se87 : Cond.selects (mm_yn 87).cls (mm_yn 87) (mm_yn 87) ∈ mm_tb := mm_ins 18 (by decide +kernel) rfl
theorem fk87_15 : mm_okf 87 15 5 3 := ⟨_, _, _, rfl, by decide +kernel, mm_in 101 (by decide +kernel) rfl⟩
theorem fk87_18 : mm_okf 87 18 5 4 := ⟨_, _, _, rfl, by decide +kernel, mm_in 102 (by decide +kernel) rfl⟩
theorem ln87_61 : Cond.methodLink (mm_yn 87).cls 61 (mm_yn 45) ∈ mm_tb := mm_in 468 (by decide +kernel) rfl
theorem ln87_100 : Cond.methodLink (mm_yn 87).cls 100 (mm_yn 87) ∈ mm_tb := mm_in 646 (by decide +kernel) rfl
theorem ln89_47 : Cond.methodLink (mm_yn 89).cls 47 (mm_yn 90) ∈ mm_tb := mm_in 656 (by decide +kernel) rfl
theorem im90 : Cond.instanceMethod (mm_yn 90) ∈ mm_tb := mm_in 657 (by decide +kernel) rfl
theorem se90 : Cond.selects (mm_yn 90).cls (mm_yn 90) (mm_yn 90) ∈ mm_tb := mm_in 658 (by decide +kernel) rfl
theorem ln90_81 : Cond.methodLink (mm_yn 90).cls 81 (mm_yn 17) ∈ mm_tb := mm_in 248 (by decide +kernel) rfl
theorem ln90_113 : Cond.methodLink (mm_yn 90).cls 113 (mm_yn 37) ∈ mm_tb := mm_in 433 (by decide +kernel) rfl
theorem ln90_174 : Cond.methodLink (mm_yn 90).cls 174 (mm_yn 79) ∈ mm_tb := mm_in 612 (by decide +kernel) rfl
theorem fk90_69 : mm_okf 90 69 0 7 := ⟨_, _, _, rfl, by decide +kernel, mm_in 190 (by decide +kernel) rfl⟩
theorem ln90_184 : Cond.methodLink (mm_yn 90).cls 184 (mm_yn 91) ∈ mm_tb := mm_in 660 (by decide +kernel) rfl
theorem im91 : Cond.instanceMethod (mm_yn 91) ∈ mm_tb := mm_in 661 (by decide +kernel) rfl
theorem se91 : Cond.selects (mm_yn 91).cls (mm_yn 91) (mm_yn 91) ∈ mm_tb := mm_in 662 (by decide +kernel) rfl
theorem ln90_188 : Cond.methodLink (mm_yn 90).cls 188 (mm_yn 97) ∈ mm_tb := mm_in 694 (by decide +kernel) rfl
theorem im97 : Cond.instanceMethod (mm_yn 97) ∈ mm_tb := mm_in 695 (by decide +kernel) rfl
theorem se97 : Cond.selects (mm_yn 97).cls (mm_yn 97) (mm_yn 97) ∈ mm_tb := mm_in 696 (by decide +kernel) rfl
theorem fk90_73 : mm_okf 90 73 0 8 := ⟨_, _, _, rfl, by decide +kernel, mm_in 191 (by decide +kernel) rfl⟩
theorem fp90_73 : mm_okp 90 0 8 := fun C T N h => by
  cases h
  exact Or.inl rfl
theorem ln90_191 : Cond.methodLink (mm_yn 90).cls 191 (mm_yn 98) ∈ mm_tb := mm_in 698 (by decide +kernel) rfl
theorem im98 : Cond.instanceMethod (mm_yn 98) ∈ mm_tb := mm_in 699 (by decide +kernel) rfl
theorem se98 : Cond.selects (mm_yn 98).cls (mm_yn 98) (mm_yn 98) ∈ mm_tb := mm_in 700 (by decide +kernel) rfl
theorem fk90_77 : mm_okf 90 77 0 9 := ⟨_, _, _, rfl, by decide +kernel, mm_in 192 (by decide +kernel) rfl⟩
theorem fp90_77 : mm_okp 90 0 9 := fun C T N h => by
  cases h
  exact Or.inl rfl
theorem gs90_195 : Cond.fieldLink (mm_yn 90).cls 195 mm_oc (mm_on 2) mm_od ∈ mm_tb := mm_in 702 (by decide +kernel) rfl
theorem gs90_203 : Cond.fieldLink (mm_yn 90).cls 203 mm_oc (mm_on 1) mm_od ∈ mm_tb := mm_in 704 (by decide +kernel) rfl
theorem fk90_44 : mm_okf 90 44 0 4 := ⟨_, _, _, rfl, by decide +kernel, mm_in 187 (by decide +kernel) rfl⟩
theorem fk90_35 : mm_okf 90 35 0 3 := ⟨_, _, _, rfl, by decide +kernel, mm_in 186 (by decide +kernel) rfl⟩
theorem ln90_128 : Cond.methodLink (mm_yn 90).cls 128 (mm_yn 47) ∈ mm_tb := mm_in 477 (by decide +kernel) rfl
theorem fk91_26 : mm_okf 91 26 8 0 := ⟨_, _, _, rfl, by decide +kernel, mm_in 164 (by decide +kernel) rfl⟩
theorem ln91_34 : Cond.methodLink (mm_yn 91).cls 34 (mm_yn 92) ∈ mm_tb := mm_in 664 (by decide +kernel) rfl
theorem im92 : Cond.instanceMethod (mm_yn 92) ∈ mm_tb := mm_in 665 (by decide +kernel) rfl
theorem se92 : Cond.selects (mm_yn 92).cls (mm_yn 92) (mm_yn 92) ∈ mm_tb := mm_in 666 (by decide +kernel) rfl
theorem fk91_15 : mm_okf 91 15 8 3 := ⟨_, _, _, rfl, by decide +kernel, mm_in 167 (by decide +kernel) rfl⟩
theorem fp91_15 : mm_okp 91 8 3 := fun C T N h => by
  cases h
  exact Or.inl rfl
theorem fk91_19 : mm_okf 91 19 8 4 := ⟨_, _, _, rfl, by decide +kernel, mm_in 168 (by decide +kernel) rfl⟩
theorem fp91_19 : mm_okp 91 8 4 := fun C T N h => by
  cases h
  exact Or.inl rfl
theorem fk91_22 : mm_okf 91 22 8 5 := ⟨_, _, _, rfl, by decide +kernel, mm_in 169 (by decide +kernel) rfl⟩
theorem fp91_22 : mm_okp 91 8 5 := fun C T N h => by
  cases h
  exact Or.inl rfl
theorem cs2000 : (Int16.ofInt 2000).toInt32 = 2000 := by decide +kernel
theorem fk91_30 : mm_okf 91 30 8 1 := ⟨_, _, _, rfl, by decide +kernel, mm_in 165 (by decide +kernel) rfl⟩
theorem ln91_40 : Cond.methodLink (mm_yn 91).cls 40 (mm_yn 81) ∈ mm_tb := mm_in 668 (by decide +kernel) rfl
theorem ln91_46 : Cond.methodLink (mm_yn 91).cls 46 (mm_yn 93) ∈ mm_tb := mm_in 669 (by decide +kernel) rfl
theorem im93 : Cond.instanceMethod (mm_yn 93) ∈ mm_tb := mm_in 670 (by decide +kernel) rfl
theorem se93 : Cond.selects (mm_yn 93).cls (mm_yn 93) (mm_yn 93) ∈ mm_tb := mm_in 671 (by decide +kernel) rfl
theorem ln91_50 : Cond.methodLinkNest (mm_yn 91).cls 50 (mm_yn 29) "LazyTester" ∈ mm_tb := mm_in 679 (by decide +kernel) rfl
theorem gs91_54 : Cond.fieldLink (mm_yn 91).cls 54 mm_oc (mm_on 1) mm_od ∈ mm_tb := mm_in 680 (by decide +kernel) rfl
theorem fk91_9 : mm_okf 91 9 8 2 := ⟨_, _, _, rfl, by decide +kernel, mm_in 166 (by decide +kernel) rfl⟩
theorem ln91_60 : Cond.methodLink (mm_yn 91).cls 60 (mm_yn 95) ∈ mm_tb := mm_in 682 (by decide +kernel) rfl
theorem im95 : Cond.instanceMethod (mm_yn 95) ∈ mm_tb := mm_in 684 (by decide +kernel) rfl
theorem se95 : Cond.selects (mm_yn 95).cls (mm_yn 95) (mm_yn 95) ∈ mm_tb := mm_ins 20 (by decide +kernel) rfl
theorem gs91_64 : Cond.fieldLink (mm_yn 91).cls 64 mm_oc (mm_on 2) mm_od ∈ mm_tb := mm_in 690 (by decide +kernel) rfl
theorem gs91_67 : Cond.fieldLink (mm_yn 91).cls 67 mm_oc (mm_on 0) mm_od ∈ mm_tb := mm_in 692 (by decide +kernel) rfl
theorem fk92_9 : mm_okf 92 9 5 2 := ⟨_, _, _, rfl, by decide +kernel, mm_in 100 (by decide +kernel) rfl⟩
theorem ln92_29 : Cond.methodLink (mm_yn 92).cls 29 (mm_yn 46) ∈ mm_tb := mm_in 472 (by decide +kernel) rfl
theorem ln93_75 : Cond.methodLink (mm_yn 93).cls 75 (mm_yn 94) ∈ mm_tb := mm_in 673 (by decide +kernel) rfl
theorem im94 : Cond.instanceMethod (mm_yn 94) ∈ mm_tb := mm_in 675 (by decide +kernel) rfl
theorem se94 : Cond.selects (mm_yn 94).cls (mm_yn 94) (mm_yn 94) ∈ mm_tb := mm_ins 19 (by decide +kernel) rfl
theorem fk94_15 : mm_okf 94 15 5 3 := ⟨_, _, _, rfl, by decide +kernel, mm_in 101 (by decide +kernel) rfl⟩
theorem fk94_25 : mm_okf 94 25 5 1 := ⟨_, _, _, rfl, by decide +kernel, mm_in 99 (by decide +kernel) rfl⟩
theorem fk94_9 : mm_okf 94 9 5 2 := ⟨_, _, _, rfl, by decide +kernel, mm_in 100 (by decide +kernel) rfl⟩
theorem ln94_78 : Cond.methodLink (mm_yn 94).cls 78 (mm_yn 27) ∈ mm_tb := mm_in 677 (by decide +kernel) rfl
theorem fk94_18 : mm_okf 94 18 5 4 := ⟨_, _, _, rfl, by decide +kernel, mm_in 102 (by decide +kernel) rfl⟩
theorem ln94_61 : Cond.methodLink (mm_yn 94).cls 61 (mm_yn 45) ∈ mm_tb := mm_in 468 (by decide +kernel) rfl
theorem ln94_75 : Cond.methodLink (mm_yn 94).cls 75 (mm_yn 94) ∈ mm_tb := mm_in 673 (by decide +kernel) rfl
theorem ln94_81 : Cond.methodLinkNest (mm_yn 94).cls 81 (mm_yn 28) "LazyTester" ∈ mm_tb := mm_in 678 (by decide +kernel) rfl
theorem fk95_15 : mm_okf 95 15 8 3 := ⟨_, _, _, rfl, by decide +kernel, mm_in 167 (by decide +kernel) rfl⟩
theorem fk95_26 : mm_okf 95 26 8 0 := ⟨_, _, _, rfl, by decide +kernel, mm_in 164 (by decide +kernel) rfl⟩
theorem fk95_9 : mm_okf 95 9 8 2 := ⟨_, _, _, rfl, by decide +kernel, mm_in 166 (by decide +kernel) rfl⟩
theorem ln95_70 : Cond.methodLink (mm_yn 95).cls 70 (mm_yn 96) ∈ mm_tb := mm_in 686 (by decide +kernel) rfl
theorem im96 : Cond.instanceMethod (mm_yn 96) ∈ mm_tb := mm_in 687 (by decide +kernel) rfl
theorem se96 : Cond.selects (mm_yn 96).cls (mm_yn 96) (mm_yn 96) ∈ mm_tb := mm_in 688 (by decide +kernel) rfl
theorem fp95_15 : mm_okp 95 8 3 := fun C T N h => by
  cases h
  exact Or.inl rfl
theorem fk96_9 : mm_okf 96 9 5 2 := ⟨_, _, _, rfl, by decide +kernel, mm_in 100 (by decide +kernel) rfl⟩
theorem ln96_72 : Cond.methodLink (mm_yn 96).cls 72 (mm_yn 85) ∈ mm_tb := mm_in 639 (by decide +kernel) rfl
theorem fk96_15 : mm_okf 96 15 5 3 := ⟨_, _, _, rfl, by decide +kernel, mm_in 101 (by decide +kernel) rfl⟩
theorem fk96_21 : mm_okf 96 21 5 0 := ⟨_, _, _, rfl, by decide +kernel, mm_in 98 (by decide +kernel) rfl⟩
theorem ln96_37 : Cond.methodLink (mm_yn 96).cls 37 (mm_yn 19) ∈ mm_tb := mm_in 457 (by decide +kernel) rfl
theorem ln96_43 : Cond.methodLink (mm_yn 96).cls 43 (mm_yn 21) ∈ mm_tb := mm_in 458 (by decide +kernel) rfl
theorem ln96_66 : Cond.methodLink (mm_yn 96).cls 66 (mm_yn 24) ∈ mm_tb := mm_in 467 (by decide +kernel) rfl
theorem ln96_53 : Cond.methodLink (mm_yn 96).cls 53 (mm_yn 44) ∈ mm_tb := mm_in 463 (by decide +kernel) rfl
theorem ln96_29 : Cond.methodLink (mm_yn 96).cls 29 (mm_yn 46) ∈ mm_tb := mm_in 472 (by decide +kernel) rfl
theorem fk97_19 : mm_okf 97 19 8 4 := ⟨_, _, _, rfl, by decide +kernel, mm_in 168 (by decide +kernel) rfl⟩
theorem fk98_22 : mm_okf 98 22 8 5 := ⟨_, _, _, rfl, by decide +kernel, mm_in 169 (by decide +kernel) rfl⟩
theorem oi99_1 : Cond.methodLink (mm_yn 99).cls 1 Lib.objectInit ∈ mm_tb := mm_in 710 (by decide +kernel) rfl
theorem fk99_7 : mm_okf 99 7 9 1 := ⟨_, _, _, rfl, by decide +kernel, mm_in 712 (by decide +kernel) rfl⟩
theorem fp99_7 : mm_okp 99 9 1 := fun C T N h => by
  cases h
  exact Or.inl rfl
theorem fk99_13 : mm_okf 99 13 9 2 := ⟨_, _, _, rfl, by decide +kernel, mm_in 713 (by decide +kernel) rfl⟩
theorem fp99_13 : mm_okp 99 9 2 := fun C T N h => by
  cases h
  exact Or.inl rfl
theorem fk99_16 : mm_okf 99 16 9 3 := ⟨_, _, _, rfl, by decide +kernel, mm_in 714 (by decide +kernel) rfl⟩
theorem fp99_16 : mm_okp 99 9 3 := fun C T N h => by
  cases h
  exact Or.inl rfl
theorem cb36 : (Int8.ofInt 36).toInt32 = 36 := by decide +kernel
theorem fk99_19 : mm_okf 99 19 9 4 := ⟨_, _, _, rfl, by decide +kernel, mm_in 715 (by decide +kernel) rfl⟩
theorem fp99_19 : mm_okp 99 9 4 := fun C T N h => by
  cases h
  exact Or.inl rfl
theorem fk99_23 : mm_okf 99 23 9 5 := ⟨_, _, _, rfl, by decide +kernel, mm_in 716 (by decide +kernel) rfl⟩
theorem fp99_23 : mm_okp 99 9 5 := fun C T N h => by
  cases h
  exact Or.inl rfl
theorem fk99_26 : mm_okf 99 26 9 6 := ⟨_, _, _, rfl, by decide +kernel, mm_in 717 (by decide +kernel) rfl⟩
theorem fp99_26 : mm_okp 99 9 6 := fun C T N h => by
  cases h
  exact Or.inl rfl
theorem fk99_29 : mm_okf 99 29 9 7 := ⟨_, _, _, rfl, by decide +kernel, mm_in 718 (by decide +kernel) rfl⟩
theorem fp99_29 : mm_okp 99 9 7 := fun C T N h => by
  cases h
  exact Or.inl rfl
theorem fk99_32 : mm_okf 99 32 9 9 := ⟨_, _, _, rfl, by decide +kernel, mm_in 720 (by decide +kernel) rfl⟩
theorem fp99_32 : mm_okp 99 9 9 := fun C T N h => by
  cases h
  exact Or.inl rfl
theorem cs512 : (Int16.ofInt 512).toInt32 = 512 := by decide +kernel
theorem fk99_35 : mm_okf 99 35 9 11 := ⟨_, _, _, rfl, by decide +kernel, mm_in 722 (by decide +kernel) rfl⟩
theorem fp99_35 : mm_okp 99 9 11 := fun C T N h => by
  cases h
  exact Or.inl rfl
theorem fk99_38 : mm_okf 99 38 9 12 := ⟨_, _, _, rfl, by decide +kernel, mm_in 723 (by decide +kernel) rfl⟩
theorem fp99_38 : mm_okp 99 9 12 := fun C T N h => by
  cases h
  exact Or.inl rfl
theorem fk99_41 : mm_okf 99 41 9 13 := ⟨_, _, _, rfl, by decide +kernel, mm_in 724 (by decide +kernel) rfl⟩
theorem fp99_41 : mm_okp 99 9 13 := fun C T N h => by
  cases h
  exact Or.inl rfl
theorem fk99_44 : mm_okf 99 44 9 15 := ⟨_, _, _, rfl, by decide +kernel, mm_in 726 (by decide +kernel) rfl⟩
theorem fp99_44 : mm_okp 99 9 15 := fun C T N h => by
  cases h
  exact Or.inl rfl
theorem fk99_47 : mm_okf 99 47 9 16 := ⟨_, _, _, rfl, by decide +kernel, mm_in 727 (by decide +kernel) rfl⟩
theorem fp99_47 : mm_okp 99 9 16 := fun C T N h => by
  cases h
  exact Or.inl rfl
theorem fk99_50 : mm_okf 99 50 9 17 := ⟨_, _, _, rfl, by decide +kernel, mm_in 728 (by decide +kernel) rfl⟩
theorem fp99_50 : mm_okp 99 9 17 := fun C T N h => by
  cases h
  exact Or.inl rfl
theorem fk99_53 : mm_okf 99 53 9 18 := ⟨_, _, _, rfl, by decide +kernel, mm_in 729 (by decide +kernel) rfl⟩
theorem fp99_53 : mm_okp 99 9 18 := fun C T N h => by
  cases h
  exact Or.inl rfl
theorem fk99_56 : mm_okf 99 56 9 20 := ⟨_, _, _, rfl, by decide +kernel, mm_in 731 (by decide +kernel) rfl⟩
theorem fp99_56 : mm_okp 99 9 20 := fun C T N h => by
  cases h
  exact Or.inl rfl
theorem fk99_59 : mm_okf 99 59 9 22 := ⟨_, _, _, rfl, by decide +kernel, mm_in 733 (by decide +kernel) rfl⟩
theorem fp99_59 : mm_okp 99 9 22 := fun C T N h => by
  cases h
  exact Or.inl rfl
theorem fk99_62 : mm_okf 99 62 9 23 := ⟨_, _, _, rfl, by decide +kernel, mm_in 734 (by decide +kernel) rfl⟩
theorem fp99_62 : mm_okp 99 9 23 := fun C T N h => by
  cases h
  exact Or.inl rfl
theorem fk100_65 : mm_okf 100 65 9 0 := ⟨_, _, _, rfl, by decide +kernel, mm_in 711 (by decide +kernel) rfl⟩
theorem ln101_69 : Cond.methodLink (mm_yn 101).cls 69 (mm_yn 102) ∈ mm_tb := mm_in 801 (by decide +kernel) rfl
theorem st102 : Cond.static (mm_yn 102) ∈ mm_tb := mm_in 802 (by decide +kernel) rfl
theorem fk101_65 : mm_okf 101 65 9 0 := ⟨_, _, _, rfl, by decide +kernel, mm_in 711 (by decide +kernel) rfl⟩
theorem fp101_65 : mm_okp 101 9 0 := fun C T N h => by
  cases h
  exact Or.inl rfl
theorem fk101_7 : mm_okf 101 7 9 1 := ⟨_, _, _, rfl, by decide +kernel, mm_in 712 (by decide +kernel) rfl⟩
theorem fk101_13 : mm_okf 101 13 9 2 := ⟨_, _, _, rfl, by decide +kernel, mm_in 713 (by decide +kernel) rfl⟩
theorem fk101_16 : mm_okf 101 16 9 3 := ⟨_, _, _, rfl, by decide +kernel, mm_in 714 (by decide +kernel) rfl⟩
theorem ln103_101 : Cond.methodLink (mm_yn 103).cls 101 (mm_yn 104) ∈ mm_tb := mm_in 808 (by decide +kernel) rfl
theorem st104 : Cond.static (mm_yn 104) ∈ mm_tb := mm_in 809 (by decide +kernel) rfl
theorem fk103_65 : mm_okf 103 65 9 0 := ⟨_, _, _, rfl, by decide +kernel, mm_in 711 (by decide +kernel) rfl⟩
theorem fp103_65 : mm_okp 103 9 0 := fun C T N h => by
  cases h
  exact Or.inl rfl
theorem ln103_105 : Cond.methodLink (mm_yn 103).cls 105 (mm_yn 105) ∈ mm_tb := mm_in 811 (by decide +kernel) rfl
theorem im105 : Cond.instanceMethod (mm_yn 105) ∈ mm_tb := mm_in 813 (by decide +kernel) rfl
theorem se105 : Cond.selects (mm_yn 105).cls (mm_yn 105) (mm_yn 105) ∈ mm_tb := mm_ins 21 (by decide +kernel) rfl
theorem fk103_19 : mm_okf 103 19 9 4 := ⟨_, _, _, rfl, by decide +kernel, mm_in 715 (by decide +kernel) rfl⟩
theorem ln104_69 : Cond.methodLink (mm_yn 104).cls 69 (mm_yn 102) ∈ mm_tb := mm_in 801 (by decide +kernel) rfl
theorem fk105_19 : mm_okf 105 19 9 4 := ⟨_, _, _, rfl, by decide +kernel, mm_in 715 (by decide +kernel) rfl⟩
theorem fk105_7 : mm_okf 105 7 9 1 := ⟨_, _, _, rfl, by decide +kernel, mm_in 712 (by decide +kernel) rfl⟩
theorem ln105_83 : Cond.methodLink (mm_yn 105).cls 83 (mm_yn 106) ∈ mm_tb := mm_in 815 (by decide +kernel) rfl
theorem im106 : Cond.instanceMethod (mm_yn 106) ∈ mm_tb := mm_in 817 (by decide +kernel) rfl
theorem se106 : Cond.selects (mm_yn 106).cls (mm_yn 106) (mm_yn 106) ∈ mm_tb := mm_ins 22 (by decide +kernel) rfl
theorem ln105_87 : Cond.methodLink (mm_yn 105).cls 87 (mm_yn 109) ∈ mm_tb := mm_in 827 (by decide +kernel) rfl
theorem st109 : Cond.static (mm_yn 109) ∈ mm_tb := mm_in 828 (by decide +kernel) rfl
theorem fk106_13 : mm_okf 106 13 9 2 := ⟨_, _, _, rfl, by decide +kernel, mm_in 713 (by decide +kernel) rfl⟩
theorem fk106_19 : mm_okf 106 19 9 4 := ⟨_, _, _, rfl, by decide +kernel, mm_in 715 (by decide +kernel) rfl⟩
theorem ln106_75 : Cond.methodLink (mm_yn 106).cls 75 (mm_yn 107) ∈ mm_tb := mm_in 819 (by decide +kernel) rfl
theorem im107 : Cond.instanceMethod (mm_yn 107) ∈ mm_tb := mm_in 821 (by decide +kernel) rfl
theorem se107 : Cond.selects (mm_yn 107).cls (mm_yn 107) (mm_yn 107) ∈ mm_tb := mm_ins 23 (by decide +kernel) rfl
theorem ln106_79 : Cond.methodLink (mm_yn 106).cls 79 (mm_yn 108) ∈ mm_tb := mm_in 823 (by decide +kernel) rfl
theorem st108 : Cond.static (mm_yn 108) ∈ mm_tb := mm_in 824 (by decide +kernel) rfl
theorem fk107_16 : mm_okf 107 16 9 3 := ⟨_, _, _, rfl, by decide +kernel, mm_in 714 (by decide +kernel) rfl⟩
theorem kl108_73 : Cond.constantLong (mm_yn 108).cls 73 1000000000000000 ∈ mm_tb := mm_in 826 (by decide +kernel) rfl
theorem kl109_73 : Cond.constantLong (mm_yn 109).cls 73 1000000000000000 ∈ mm_tb := mm_in 826 (by decide +kernel) rfl
theorem ln110_108 : Cond.methodLink (mm_yn 110).cls 108 (mm_yn 111) ∈ mm_tb := mm_in 834 (by decide +kernel) rfl
theorem st111 : Cond.static (mm_yn 111) ∈ mm_tb := mm_in 835 (by decide +kernel) rfl
theorem fk110_65 : mm_okf 110 65 9 0 := ⟨_, _, _, rfl, by decide +kernel, mm_in 711 (by decide +kernel) rfl⟩
theorem fp110_65 : mm_okp 110 9 0 := fun C T N h => by
  cases h
  exact Or.inl rfl
theorem ln110_111 : Cond.methodLink (mm_yn 110).cls 111 (mm_yn 112) ∈ mm_tb := mm_in 837 (by decide +kernel) rfl
theorem im112 : Cond.instanceMethod (mm_yn 112) ∈ mm_tb := mm_in 839 (by decide +kernel) rfl
theorem se112 : Cond.selects (mm_yn 112).cls (mm_yn 112) (mm_yn 112) ∈ mm_tb := mm_ins 24 (by decide +kernel) rfl
theorem fk110_23 : mm_okf 110 23 9 5 := ⟨_, _, _, rfl, by decide +kernel, mm_in 716 (by decide +kernel) rfl⟩
theorem ln111_69 : Cond.methodLink (mm_yn 111).cls 69 (mm_yn 102) ∈ mm_tb := mm_in 801 (by decide +kernel) rfl
theorem fk112_7 : mm_okf 112 7 9 1 := ⟨_, _, _, rfl, by decide +kernel, mm_in 712 (by decide +kernel) rfl⟩
theorem ln112_98 : Cond.methodLink (mm_yn 112).cls 98 (mm_yn 113) ∈ mm_tb := mm_in 841 (by decide +kernel) rfl
theorem im113 : Cond.instanceMethod (mm_yn 113) ∈ mm_tb := mm_in 843 (by decide +kernel) rfl
theorem se113 : Cond.selects (mm_yn 113).cls (mm_yn 113) (mm_yn 113) ∈ mm_tb := mm_ins 25 (by decide +kernel) rfl
theorem fk112_23 : mm_okf 112 23 9 5 := ⟨_, _, _, rfl, by decide +kernel, mm_in 716 (by decide +kernel) rfl⟩
theorem ln113_94 : Cond.methodLink (mm_yn 113).cls 94 (mm_yn 114) ∈ mm_tb := mm_in 845 (by decide +kernel) rfl
theorem im114 : Cond.instanceMethod (mm_yn 114) ∈ mm_tb := mm_in 847 (by decide +kernel) rfl
theorem se114 : Cond.selects (mm_yn 114).cls (mm_yn 114) (mm_yn 114) ∈ mm_tb := mm_ins 26 (by decide +kernel) rfl
theorem fk114_13 : mm_okf 114 13 9 2 := ⟨_, _, _, rfl, by decide +kernel, mm_in 713 (by decide +kernel) rfl⟩
theorem ln114_75 : Cond.methodLink (mm_yn 114).cls 75 (mm_yn 107) ∈ mm_tb := mm_in 819 (by decide +kernel) rfl
theorem ln114_90 : Cond.methodLink (mm_yn 114).cls 90 (mm_yn 115) ∈ mm_tb := mm_in 849 (by decide +kernel) rfl
theorem im115 : Cond.instanceMethod (mm_yn 115) ∈ mm_tb := mm_in 851 (by decide +kernel) rfl
theorem se115 : Cond.selects (mm_yn 115).cls (mm_yn 115) (mm_yn 115) ∈ mm_tb := mm_ins 27 (by decide +kernel) rfl
theorem fk115_23 : mm_okf 115 23 9 5 := ⟨_, _, _, rfl, by decide +kernel, mm_in 716 (by decide +kernel) rfl⟩
theorem ln116_101 : Cond.methodLink (mm_yn 116).cls 101 (mm_yn 104) ∈ mm_tb := mm_in 808 (by decide +kernel) rfl
theorem fk116_65 : mm_okf 116 65 9 0 := ⟨_, _, _, rfl, by decide +kernel, mm_in 711 (by decide +kernel) rfl⟩
theorem fp116_65 : mm_okp 116 9 0 := fun C T N h => by
  cases h
  exact Or.inl rfl
theorem ln116_105 : Cond.methodLink (mm_yn 116).cls 105 (mm_yn 105) ∈ mm_tb := mm_in 811 (by decide +kernel) rfl
theorem fk116_19 : mm_okf 116 19 9 4 := ⟨_, _, _, rfl, by decide +kernel, mm_in 715 (by decide +kernel) rfl⟩
theorem kl116_73 : Cond.constantLong (mm_yn 116).cls 73 1000000000000000 ∈ mm_tb := mm_in 826 (by decide +kernel) rfl
theorem ln116_135 : Cond.methodLink (mm_yn 116).cls 135 (mm_yn 117) ∈ mm_tb := mm_in 857 (by decide +kernel) rfl
theorem im117 : Cond.instanceMethod (mm_yn 117) ∈ mm_tb := mm_in 859 (by decide +kernel) rfl
theorem se117 : Cond.selects (mm_yn 117).cls (mm_yn 117) (mm_yn 117) ∈ mm_tb := mm_ins 28 (by decide +kernel) rfl
theorem ln116_138 : Cond.methodLink (mm_yn 116).cls 138 (mm_yn 122) ∈ mm_tb := mm_in 876 (by decide +kernel) rfl
theorem im122 : Cond.instanceMethod (mm_yn 122) ∈ mm_tb := mm_in 878 (by decide +kernel) rfl
theorem se122 : Cond.selects (mm_yn 122).cls (mm_yn 122) (mm_yn 122) ∈ mm_tb := mm_ins 32 (by decide +kernel) rfl
theorem fk116_132 : mm_okf 116 132 9 8 := ⟨_, _, _, rfl, by decide +kernel, mm_in 719 (by decide +kernel) rfl⟩
theorem ln117_121 : Cond.methodLink (mm_yn 117).cls 121 (mm_yn 118) ∈ mm_tb := mm_in 861 (by decide +kernel) rfl
theorem im118 : Cond.instanceMethod (mm_yn 118) ∈ mm_tb := mm_in 863 (by decide +kernel) rfl
theorem se118 : Cond.selects (mm_yn 118).cls (mm_yn 118) (mm_yn 118) ∈ mm_tb := mm_ins 29 (by decide +kernel) rfl
theorem fk117_114 : mm_okf 117 114 9 10 := ⟨_, _, _, rfl, by decide +kernel, mm_in 721 (by decide +kernel) rfl⟩
theorem fp117_114 : mm_okp 117 9 10 := fun C T N h => by
  cases h
  exact Or.inl rfl
theorem ln117_117 : Cond.methodLink (mm_yn 117).cls 117 (mm_yn 119) ∈ mm_tb := mm_in 865 (by decide +kernel) rfl
theorem im119 : Cond.instanceMethod (mm_yn 119) ∈ mm_tb := mm_in 867 (by decide +kernel) rfl
theorem se119 : Cond.selects (mm_yn 119).cls (mm_yn 119) (mm_yn 119) ∈ mm_tb := mm_ins 30 (by decide +kernel) rfl
theorem fk117_35 : mm_okf 117 35 9 11 := ⟨_, _, _, rfl, by decide +kernel, mm_in 722 (by decide +kernel) rfl⟩
theorem fk117_38 : mm_okf 117 38 9 12 := ⟨_, _, _, rfl, by decide +kernel, mm_in 723 (by decide +kernel) rfl⟩
theorem ln117_124 : Cond.methodLink (mm_yn 117).cls 124 (mm_yn 120) ∈ mm_tb := mm_in 869 (by decide +kernel) rfl
theorem st120 : Cond.static (mm_yn 120) ∈ mm_tb := mm_in 870 (by decide +kernel) rfl
theorem fk117_41 : mm_okf 117 41 9 13 := ⟨_, _, _, rfl, by decide +kernel, mm_in 724 (by decide +kernel) rfl⟩
theorem ln117_128 : Cond.methodLink (mm_yn 117).cls 128 (mm_yn 121) ∈ mm_tb := mm_in 872 (by decide +kernel) rfl
theorem im121 : Cond.instanceMethod (mm_yn 121) ∈ mm_tb := mm_in 874 (by decide +kernel) rfl
theorem se121 : Cond.selects (mm_yn 121).cls (mm_yn 121) (mm_yn 121) ∈ mm_tb := mm_ins 31 (by decide +kernel) rfl
theorem fk118_26 : mm_okf 118 26 9 6 := ⟨_, _, _, rfl, by decide +kernel, mm_in 717 (by decide +kernel) rfl⟩
theorem fk119_35 : mm_okf 119 35 9 11 := ⟨_, _, _, rfl, by decide +kernel, mm_in 722 (by decide +kernel) rfl⟩
theorem fk119_114 : mm_okf 119 114 9 10 := ⟨_, _, _, rfl, by decide +kernel, mm_in 721 (by decide +kernel) rfl⟩
theorem fk119_38 : mm_okf 119 38 9 12 := ⟨_, _, _, rfl, by decide +kernel, mm_in 723 (by decide +kernel) rfl⟩
theorem fk119_41 : mm_okf 119 41 9 13 := ⟨_, _, _, rfl, by decide +kernel, mm_in 724 (by decide +kernel) rfl⟩
theorem fp119_114 : mm_okp 119 9 10 := fun C T N h => by
  cases h
  exact Or.inl rfl
theorem ln121_83 : Cond.methodLink (mm_yn 121).cls 83 (mm_yn 106) ∈ mm_tb := mm_in 815 (by decide +kernel) rfl
theorem fk121_26 : mm_okf 121 26 9 6 := ⟨_, _, _, rfl, by decide +kernel, mm_in 717 (by decide +kernel) rfl⟩
theorem fk121_29 : mm_okf 121 29 9 7 := ⟨_, _, _, rfl, by decide +kernel, mm_in 718 (by decide +kernel) rfl⟩
theorem fk121_13 : mm_okf 121 13 9 2 := ⟨_, _, _, rfl, by decide +kernel, mm_in 713 (by decide +kernel) rfl⟩
theorem fk121_19 : mm_okf 121 19 9 4 := ⟨_, _, _, rfl, by decide +kernel, mm_in 715 (by decide +kernel) rfl⟩
theorem ln121_75 : Cond.methodLink (mm_yn 121).cls 75 (mm_yn 107) ∈ mm_tb := mm_in 819 (by decide +kernel) rfl
theorem ln121_117 : Cond.methodLink (mm_yn 121).cls 117 (mm_yn 119) ∈ mm_tb := mm_in 865 (by decide +kernel) rfl
theorem fk122_132 : mm_okf 122 132 9 8 := ⟨_, _, _, rfl, by decide +kernel, mm_in 719 (by decide +kernel) rfl⟩
theorem fp122_132 : mm_okp 122 9 8 := fun C T N h => by
  cases h
  exact Or.inl rfl
theorem fk122_114 : mm_okf 122 114 9 10 := ⟨_, _, _, rfl, by decide +kernel, mm_in 721 (by decide +kernel) rfl⟩
theorem fp122_114 : mm_okp 122 9 10 := fun C T N h => by
  cases h
  exact Or.inl rfl
theorem ln122_117 : Cond.methodLink (mm_yn 122).cls 117 (mm_yn 119) ∈ mm_tb := mm_in 865 (by decide +kernel) rfl
theorem fk122_35 : mm_okf 122 35 9 11 := ⟨_, _, _, rfl, by decide +kernel, mm_in 722 (by decide +kernel) rfl⟩
theorem fk122_32 : mm_okf 122 32 9 9 := ⟨_, _, _, rfl, by decide +kernel, mm_in 720 (by decide +kernel) rfl⟩
theorem fk122_26 : mm_okf 122 26 9 6 := ⟨_, _, _, rfl, by decide +kernel, mm_in 717 (by decide +kernel) rfl⟩
theorem fk122_13 : mm_okf 122 13 9 2 := ⟨_, _, _, rfl, by decide +kernel, mm_in 713 (by decide +kernel) rfl⟩
theorem fk122_29 : mm_okf 122 29 9 7 := ⟨_, _, _, rfl, by decide +kernel, mm_in 718 (by decide +kernel) rfl⟩
theorem ln123_108 : Cond.methodLink (mm_yn 123).cls 108 (mm_yn 111) ∈ mm_tb := mm_in 834 (by decide +kernel) rfl
theorem fk123_65 : mm_okf 123 65 9 0 := ⟨_, _, _, rfl, by decide +kernel, mm_in 711 (by decide +kernel) rfl⟩
theorem fp123_65 : mm_okp 123 9 0 := fun C T N h => by
  cases h
  exact Or.inl rfl
theorem ln123_111 : Cond.methodLink (mm_yn 123).cls 111 (mm_yn 112) ∈ mm_tb := mm_in 837 (by decide +kernel) rfl
theorem fk123_23 : mm_okf 123 23 9 5 := ⟨_, _, _, rfl, by decide +kernel, mm_in 716 (by decide +kernel) rfl⟩
theorem fk123_132 : mm_okf 123 132 9 8 := ⟨_, _, _, rfl, by decide +kernel, mm_in 719 (by decide +kernel) rfl⟩
theorem fp123_132 : mm_okp 123 9 8 := fun C T N h => by
  cases h
  exact Or.inl rfl
theorem fk123_114 : mm_okf 123 114 9 10 := ⟨_, _, _, rfl, by decide +kernel, mm_in 721 (by decide +kernel) rfl⟩
theorem fp123_114 : mm_okp 123 9 10 := fun C T N h => by
  cases h
  exact Or.inl rfl
theorem ln123_117 : Cond.methodLink (mm_yn 123).cls 117 (mm_yn 119) ∈ mm_tb := mm_in 865 (by decide +kernel) rfl
theorem fk123_35 : mm_okf 123 35 9 11 := ⟨_, _, _, rfl, by decide +kernel, mm_in 722 (by decide +kernel) rfl⟩
theorem fk123_38 : mm_okf 123 38 9 12 := ⟨_, _, _, rfl, by decide +kernel, mm_in 723 (by decide +kernel) rfl⟩
theorem fk123_41 : mm_okf 123 41 9 13 := ⟨_, _, _, rfl, by decide +kernel, mm_in 724 (by decide +kernel) rfl⟩
theorem ln123_141 : Cond.methodLink (mm_yn 123).cls 141 (mm_yn 124) ∈ mm_tb := mm_in 884 (by decide +kernel) rfl
theorem im124 : Cond.instanceMethod (mm_yn 124) ∈ mm_tb := mm_in 886 (by decide +kernel) rfl
theorem se124 : Cond.selects (mm_yn 124).cls (mm_yn 124) (mm_yn 124) ∈ mm_tb := mm_ins 33 (by decide +kernel) rfl
theorem ln124_98 : Cond.methodLink (mm_yn 124).cls 98 (mm_yn 113) ∈ mm_tb := mm_in 841 (by decide +kernel) rfl
theorem fk124_32 : mm_okf 124 32 9 9 := ⟨_, _, _, rfl, by decide +kernel, mm_in 720 (by decide +kernel) rfl⟩
theorem fk124_132 : mm_okf 124 132 9 8 := ⟨_, _, _, rfl, by decide +kernel, mm_in 719 (by decide +kernel) rfl⟩
theorem fp124_132 : mm_okp 124 9 8 := fun C T N h => by
  cases h
  exact Or.inl rfl
theorem ln124_94 : Cond.methodLink (mm_yn 124).cls 94 (mm_yn 114) ∈ mm_tb := mm_in 845 (by decide +kernel) rfl
theorem fk124_13 : mm_okf 124 13 9 2 := ⟨_, _, _, rfl, by decide +kernel, mm_in 713 (by decide +kernel) rfl⟩
theorem ln124_75 : Cond.methodLink (mm_yn 124).cls 75 (mm_yn 107) ∈ mm_tb := mm_in 819 (by decide +kernel) rfl
theorem ln124_90 : Cond.methodLink (mm_yn 124).cls 90 (mm_yn 115) ∈ mm_tb := mm_in 849 (by decide +kernel) rfl
theorem ln124_117 : Cond.methodLink (mm_yn 124).cls 117 (mm_yn 119) ∈ mm_tb := mm_in 865 (by decide +kernel) rfl
theorem fk125_65 : mm_okf 125 65 9 0 := ⟨_, _, _, rfl, by decide +kernel, mm_in 711 (by decide +kernel) rfl⟩
theorem fp125_65 : mm_okp 125 9 0 := fun C T N h => by
  cases h
  exact Or.inl rfl
theorem fk125_132 : mm_okf 125 132 9 8 := ⟨_, _, _, rfl, by decide +kernel, mm_in 719 (by decide +kernel) rfl⟩
theorem fk125_32 : mm_okf 125 32 9 9 := ⟨_, _, _, rfl, by decide +kernel, mm_in 720 (by decide +kernel) rfl⟩
theorem ln126_150 : Cond.methodLink (mm_yn 126).cls 150 (mm_yn 127) ∈ mm_tb := mm_in 896 (by decide +kernel) rfl
theorem st127 : Cond.static (mm_yn 127) ∈ mm_tb := mm_in 897 (by decide +kernel) rfl
theorem fk126_144 : mm_okf 126 144 9 14 := ⟨_, _, _, rfl, by decide +kernel, mm_in 725 (by decide +kernel) rfl⟩
theorem fk126_65 : mm_okf 126 65 9 0 := ⟨_, _, _, rfl, by decide +kernel, mm_in 711 (by decide +kernel) rfl⟩
theorem fp126_65 : mm_okp 126 9 0 := fun C T N h => by
  cases h
  exact Or.inl rfl
theorem ln126_153 : Cond.methodLink (mm_yn 126).cls 153 (mm_yn 128) ∈ mm_tb := mm_in 899 (by decide +kernel) rfl
theorem im128 : Cond.instanceMethod (mm_yn 128) ∈ mm_tb := mm_in 901 (by decide +kernel) rfl
theorem se128 : Cond.selects (mm_yn 128).cls (mm_yn 128) (mm_yn 128) ∈ mm_tb := mm_ins 34 (by decide +kernel) rfl
theorem ln127_124 : Cond.methodLink (mm_yn 127).cls 124 (mm_yn 120) ∈ mm_tb := mm_in 869 (by decide +kernel) rfl
theorem fk128_44 : mm_okf 128 44 9 15 := ⟨_, _, _, rfl, by decide +kernel, mm_in 726 (by decide +kernel) rfl⟩
theorem fk128_144 : mm_okf 128 144 9 14 := ⟨_, _, _, rfl, by decide +kernel, mm_in 725 (by decide +kernel) rfl⟩
theorem fk128_47 : mm_okf 128 47 9 16 := ⟨_, _, _, rfl, by decide +kernel, mm_in 727 (by decide +kernel) rfl⟩
theorem fk128_50 : mm_okf 128 50 9 17 := ⟨_, _, _, rfl, by decide +kernel, mm_in 728 (by decide +kernel) rfl⟩
theorem fk128_56 : mm_okf 128 56 9 20 := ⟨_, _, _, rfl, by decide +kernel, mm_in 731 (by decide +kernel) rfl⟩
theorem fk128_147 : mm_okf 128 147 9 19 := ⟨_, _, _, rfl, by decide +kernel, mm_in 730 (by decide +kernel) rfl⟩
theorem fp128_144 : mm_okp 128 9 14 := fun C T N h => by
  cases h
  exact Or.inl rfl
theorem fp128_147 : mm_okp 128 9 19 := fun C T N h => by
  cases h
  exact Or.inl rfl
theorem ln129_150 : Cond.methodLink (mm_yn 129).cls 150 (mm_yn 127) ∈ mm_tb := mm_in 896 (by decide +kernel) rfl
theorem fk129_144 : mm_okf 129 144 9 14 := ⟨_, _, _, rfl, by decide +kernel, mm_in 725 (by decide +kernel) rfl⟩
theorem fk129_65 : mm_okf 129 65 9 0 := ⟨_, _, _, rfl, by decide +kernel, mm_in 711 (by decide +kernel) rfl⟩
theorem fp129_65 : mm_okp 129 9 0 := fun C T N h => by
  cases h
  exact Or.inl rfl
theorem ln129_153 : Cond.methodLink (mm_yn 129).cls 153 (mm_yn 128) ∈ mm_tb := mm_in 899 (by decide +kernel) rfl
theorem fk130_147 : mm_okf 130 147 9 19 := ⟨_, _, _, rfl, by decide +kernel, mm_in 730 (by decide +kernel) rfl⟩
theorem fk130_144 : mm_okf 130 144 9 14 := ⟨_, _, _, rfl, by decide +kernel, mm_in 725 (by decide +kernel) rfl⟩
theorem fk130_65 : mm_okf 130 65 9 0 := ⟨_, _, _, rfl, by decide +kernel, mm_in 711 (by decide +kernel) rfl⟩
theorem fp130_65 : mm_okp 130 9 0 := fun C T N h => by
  cases h
  exact Or.inl rfl
theorem fk130_56 : mm_okf 130 56 9 20 := ⟨_, _, _, rfl, by decide +kernel, mm_in 731 (by decide +kernel) rfl⟩
theorem fp130_147 : mm_okp 130 9 19 := fun C T N h => by
  cases h
  exact Or.inl rfl
theorem ln130_153 : Cond.methodLink (mm_yn 130).cls 153 (mm_yn 128) ∈ mm_tb := mm_in 899 (by decide +kernel) rfl
theorem fk131_65 : mm_okf 131 65 9 0 := ⟨_, _, _, rfl, by decide +kernel, mm_in 711 (by decide +kernel) rfl⟩
theorem fp131_65 : mm_okp 131 9 0 := fun C T N h => by
  cases h
  exact Or.inl rfl
theorem fk131_147 : mm_okf 131 147 9 19 := ⟨_, _, _, rfl, by decide +kernel, mm_in 730 (by decide +kernel) rfl⟩
theorem fp131_147 : mm_okp 131 9 19 := fun C T N h => by
  cases h
  exact Or.inl rfl
theorem fk131_144 : mm_okf 131 144 9 14 := ⟨_, _, _, rfl, by decide +kernel, mm_in 725 (by decide +kernel) rfl⟩
theorem fp131_144 : mm_okp 131 9 14 := fun C T N h => by
  cases h
  exact Or.inl rfl
theorem ln132_101 : Cond.methodLink (mm_yn 132).cls 101 (mm_yn 104) ∈ mm_tb := mm_in 808 (by decide +kernel) rfl
theorem fk132_65 : mm_okf 132 65 9 0 := ⟨_, _, _, rfl, by decide +kernel, mm_in 711 (by decide +kernel) rfl⟩
theorem fp132_65 : mm_okp 132 9 0 := fun C T N h => by
  cases h
  exact Or.inl rfl
theorem ln132_105 : Cond.methodLink (mm_yn 132).cls 105 (mm_yn 105) ∈ mm_tb := mm_in 811 (by decide +kernel) rfl
theorem fk132_19 : mm_okf 132 19 9 4 := ⟨_, _, _, rfl, by decide +kernel, mm_in 715 (by decide +kernel) rfl⟩
theorem fk132_147 : mm_okf 132 147 9 19 := ⟨_, _, _, rfl, by decide +kernel, mm_in 730 (by decide +kernel) rfl⟩
theorem kl132_168 : Cond.constantLong (mm_yn 132).cls 168 1000 ∈ mm_tb := mm_in 919 (by decide +kernel) rfl
theorem fk132_170 : mm_okf 132 170 9 25 := ⟨_, _, _, rfl, by decide +kernel, mm_in 736 (by decide +kernel) rfl⟩
theorem fp132_170 : mm_okp 132 9 25 := fun C T N h => by
  cases h
  exact Or.inl rfl
theorem fk132_173 : mm_okf 132 173 9 26 := ⟨_, _, _, rfl, by decide +kernel, mm_in 737 (by decide +kernel) rfl⟩
theorem fp132_173 : mm_okp 132 9 26 := fun C T N h => by
  cases h
  exact Or.inl rfl
theorem ln132_135 : Cond.methodLink (mm_yn 132).cls 135 (mm_yn 117) ∈ mm_tb := mm_in 857 (by decide +kernel) rfl
theorem ln132_177 : Cond.methodLink (mm_yn 132).cls 177 (mm_yn 133) ∈ mm_tb := mm_in 920 (by decide +kernel) rfl
theorem im133 : Cond.instanceMethod (mm_yn 133) ∈ mm_tb := mm_in 922 (by decide +kernel) rfl
theorem se133 : Cond.selects (mm_yn 133).cls (mm_yn 133) (mm_yn 133) ∈ mm_tb := mm_ins 35 (by decide +kernel) rfl
theorem ln132_138 : Cond.methodLink (mm_yn 132).cls 138 (mm_yn 122) ∈ mm_tb := mm_in 876 (by decide +kernel) rfl
theorem fk133_56 : mm_okf 133 56 9 20 := ⟨_, _, _, rfl, by decide +kernel, mm_in 731 (by decide +kernel) rfl⟩
theorem fk133_147 : mm_okf 133 147 9 19 := ⟨_, _, _, rfl, by decide +kernel, mm_in 730 (by decide +kernel) rfl⟩
theorem fk133_44 : mm_okf 133 44 9 15 := ⟨_, _, _, rfl, by decide +kernel, mm_in 726 (by decide +kernel) rfl⟩
theorem fk133_53 : mm_okf 133 53 9 18 := ⟨_, _, _, rfl, by decide +kernel, mm_in 729 (by decide +kernel) rfl⟩
theorem fk133_47 : mm_okf 133 47 9 16 := ⟨_, _, _, rfl, by decide +kernel, mm_in 727 (by decide +kernel) rfl⟩
theorem fk133_50 : mm_okf 133 50 9 17 := ⟨_, _, _, rfl, by decide +kernel, mm_in 728 (by decide +kernel) rfl⟩
theorem ln133_162 : Cond.methodLink (mm_yn 133).cls 162 (mm_yn 134) ∈ mm_tb := mm_in 924 (by decide +kernel) rfl
theorem im134 : Cond.instanceMethod (mm_yn 134) ∈ mm_tb := mm_in 926 (by decide +kernel) rfl
theorem se134 : Cond.selects (mm_yn 134).cls (mm_yn 134) (mm_yn 134) ∈ mm_tb := mm_ins 36 (by decide +kernel) rfl
theorem ln133_165 : Cond.methodLink (mm_yn 133).cls 165 (mm_yn 137) ∈ mm_tb := mm_in 935 (by decide +kernel) rfl
theorem im137 : Cond.instanceMethod (mm_yn 137) ∈ mm_tb := mm_in 937 (by decide +kernel) rfl
theorem se137 : Cond.selects (mm_yn 137).cls (mm_yn 137) (mm_yn 137) ∈ mm_tb := mm_ins 38 (by decide +kernel) rfl
theorem ln134_159 : Cond.methodLink (mm_yn 134).cls 159 (mm_yn 135) ∈ mm_tb := mm_in 928 (by decide +kernel) rfl
theorem im135 : Cond.instanceMethod (mm_yn 135) ∈ mm_tb := mm_in 930 (by decide +kernel) rfl
theorem se135 : Cond.selects (mm_yn 135).cls (mm_yn 135) (mm_yn 135) ∈ mm_tb := mm_ins 37 (by decide +kernel) rfl
theorem fk134_26 : mm_okf 134 26 9 6 := ⟨_, _, _, rfl, by decide +kernel, mm_in 717 (by decide +kernel) rfl⟩
theorem ln135_124 : Cond.methodLink (mm_yn 135).cls 124 (mm_yn 120) ∈ mm_tb := mm_in 869 (by decide +kernel) rfl
theorem fk135_26 : mm_okf 135 26 9 6 := ⟨_, _, _, rfl, by decide +kernel, mm_in 717 (by decide +kernel) rfl⟩
theorem ln135_156 : Cond.methodLink (mm_yn 135).cls 156 (mm_yn 136) ∈ mm_tb := mm_in 932 (by decide +kernel) rfl
theorem st136 : Cond.static (mm_yn 136) ∈ mm_tb := mm_in 933 (by decide +kernel) rfl
theorem fk135_13 : mm_okf 135 13 9 2 := ⟨_, _, _, rfl, by decide +kernel, mm_in 713 (by decide +kernel) rfl⟩
theorem fk135_29 : mm_okf 135 29 9 7 := ⟨_, _, _, rfl, by decide +kernel, mm_in 718 (by decide +kernel) rfl⟩
theorem ln136_124 : Cond.methodLink (mm_yn 136).cls 124 (mm_yn 120) ∈ mm_tb := mm_in 869 (by decide +kernel) rfl
theorem ln137_159 : Cond.methodLink (mm_yn 137).cls 159 (mm_yn 135) ∈ mm_tb := mm_in 928 (by decide +kernel) rfl
theorem fk137_114 : mm_okf 137 114 9 10 := ⟨_, _, _, rfl, by decide +kernel, mm_in 721 (by decide +kernel) rfl⟩
theorem fp137_114 : mm_okp 137 9 10 := fun C T N h => by
  cases h
  exact Or.inl rfl
theorem ln137_117 : Cond.methodLink (mm_yn 137).cls 117 (mm_yn 119) ∈ mm_tb := mm_in 865 (by decide +kernel) rfl
theorem fk137_35 : mm_okf 137 35 9 11 := ⟨_, _, _, rfl, by decide +kernel, mm_in 722 (by decide +kernel) rfl⟩
theorem fk137_38 : mm_okf 137 38 9 12 := ⟨_, _, _, rfl, by decide +kernel, mm_in 723 (by decide +kernel) rfl⟩
theorem fk137_26 : mm_okf 137 26 9 6 := ⟨_, _, _, rfl, by decide +kernel, mm_in 717 (by decide +kernel) rfl⟩
theorem fk137_13 : mm_okf 137 13 9 2 := ⟨_, _, _, rfl, by decide +kernel, mm_in 713 (by decide +kernel) rfl⟩
theorem fk137_29 : mm_okf 137 29 9 7 := ⟨_, _, _, rfl, by decide +kernel, mm_in 718 (by decide +kernel) rfl⟩
theorem ln138_101 : Cond.methodLink (mm_yn 138).cls 101 (mm_yn 104) ∈ mm_tb := mm_in 808 (by decide +kernel) rfl
theorem fk138_65 : mm_okf 138 65 9 0 := ⟨_, _, _, rfl, by decide +kernel, mm_in 711 (by decide +kernel) rfl⟩
theorem fp138_65 : mm_okp 138 9 0 := fun C T N h => by
  cases h
  exact Or.inl rfl
theorem fk138_147 : mm_okf 138 147 9 19 := ⟨_, _, _, rfl, by decide +kernel, mm_in 730 (by decide +kernel) rfl⟩
theorem ln138_105 : Cond.methodLink (mm_yn 138).cls 105 (mm_yn 105) ∈ mm_tb := mm_in 811 (by decide +kernel) rfl
theorem ln138_121 : Cond.methodLink (mm_yn 138).cls 121 (mm_yn 118) ∈ mm_tb := mm_in 861 (by decide +kernel) rfl
theorem fk138_26 : mm_okf 138 26 9 6 := ⟨_, _, _, rfl, by decide +kernel, mm_in 717 (by decide +kernel) rfl⟩
theorem fk138_29 : mm_okf 138 29 9 7 := ⟨_, _, _, rfl, by decide +kernel, mm_in 718 (by decide +kernel) rfl⟩
theorem fk138_181 : mm_okf 138 181 9 24 := ⟨_, _, _, rfl, by decide +kernel, mm_in 735 (by decide +kernel) rfl⟩
theorem fp138_181 : mm_okp 138 9 24 := fun C T N h => by
  cases h
  exact Or.inl rfl
theorem fk138_184 : mm_okf 138 184 9 21 := ⟨_, _, _, rfl, by decide +kernel, mm_in 732 (by decide +kernel) rfl⟩
theorem fp138_184 : mm_okp 138 9 21 := fun C T N h => by
  cases h
  exact Or.inl rfl
theorem fk138_170 : mm_okf 138 170 9 25 := ⟨_, _, _, rfl, by decide +kernel, mm_in 736 (by decide +kernel) rfl⟩
theorem fp138_170 : mm_okp 138 9 25 := fun C T N h => by
  cases h
  exact Or.inl rfl
theorem fk138_173 : mm_okf 138 173 9 26 := ⟨_, _, _, rfl, by decide +kernel, mm_in 737 (by decide +kernel) rfl⟩
theorem fp138_173 : mm_okp 138 9 26 := fun C T N h => by
  cases h
  exact Or.inl rfl
theorem ln138_198 : Cond.methodLink (mm_yn 138).cls 198 (mm_yn 139) ∈ mm_tb := mm_in 943 (by decide +kernel) rfl
theorem im139 : Cond.instanceMethod (mm_yn 139) ∈ mm_tb := mm_in 945 (by decide +kernel) rfl
theorem se139 : Cond.selects (mm_yn 139).cls (mm_yn 139) (mm_yn 139) ∈ mm_tb := mm_ins 39 (by decide +kernel) rfl
theorem ln138_138 : Cond.methodLink (mm_yn 138).cls 138 (mm_yn 122) ∈ mm_tb := mm_in 876 (by decide +kernel) rfl
theorem fk139_170 : mm_okf 139 170 9 25 := ⟨_, _, _, rfl, by decide +kernel, mm_in 736 (by decide +kernel) rfl⟩
theorem fp139_170 : mm_okp 139 9 25 := fun C T N h => by
  cases h
  exact Or.inl rfl
theorem ln139_177 : Cond.methodLink (mm_yn 139).cls 177 (mm_yn 133) ∈ mm_tb := mm_in 920 (by decide +kernel) rfl
theorem ln139_191 : Cond.methodLink (mm_yn 139).cls 191 (mm_yn 140) ∈ mm_tb := mm_in 947 (by decide +kernel) rfl
theorem im140 : Cond.instanceMethod (mm_yn 140) ∈ mm_tb := mm_in 949 (by decide +kernel) rfl
theorem se140 : Cond.selects (mm_yn 140).cls (mm_yn 140) (mm_yn 140) ∈ mm_tb := mm_ins 40 (by decide +kernel) rfl
theorem fk139_173 : mm_okf 139 173 9 26 := ⟨_, _, _, rfl, by decide +kernel, mm_in 737 (by decide +kernel) rfl⟩
theorem ln139_87 : Cond.methodLink (mm_yn 139).cls 87 (mm_yn 109) ∈ mm_tb := mm_in 827 (by decide +kernel) rfl
theorem fp139_173 : mm_okp 139 9 26 := fun C T N h => by
  cases h
  exact Or.inl rfl
theorem fk139_59 : mm_okf 139 59 9 22 := ⟨_, _, _, rfl, by decide +kernel, mm_in 733 (by decide +kernel) rfl⟩
theorem fk139_184 : mm_okf 139 184 9 21 := ⟨_, _, _, rfl, by decide +kernel, mm_in 732 (by decide +kernel) rfl⟩
theorem fk139_62 : mm_okf 139 62 9 23 := ⟨_, _, _, rfl, by decide +kernel, mm_in 734 (by decide +kernel) rfl⟩
theorem fp139_184 : mm_okp 139 9 21 := fun C T N h => by
  cases h
  exact Or.inl rfl
theorem ln139_195 : Cond.methodLink (mm_yn 139).cls 195 (mm_yn 141) ∈ mm_tb := mm_in 951 (by decide +kernel) rfl
theorem im141 : Cond.instanceMethod (mm_yn 141) ∈ mm_tb := mm_in 953 (by decide +kernel) rfl
theorem se141 : Cond.selects (mm_yn 141).cls (mm_yn 141) (mm_yn 141) ∈ mm_tb := mm_ins 41 (by decide +kernel) rfl
theorem fk140_26 : mm_okf 140 26 9 6 := ⟨_, _, _, rfl, by decide +kernel, mm_in 717 (by decide +kernel) rfl⟩
theorem fk140_19 : mm_okf 140 19 9 4 := ⟨_, _, _, rfl, by decide +kernel, mm_in 715 (by decide +kernel) rfl⟩
theorem fk140_29 : mm_okf 140 29 9 7 := ⟨_, _, _, rfl, by decide +kernel, mm_in 718 (by decide +kernel) rfl⟩
theorem fk140_181 : mm_okf 140 181 9 24 := ⟨_, _, _, rfl, by decide +kernel, mm_in 735 (by decide +kernel) rfl⟩
theorem ln140_124 : Cond.methodLink (mm_yn 140).cls 124 (mm_yn 120) ∈ mm_tb := mm_in 869 (by decide +kernel) rfl
theorem ln140_79 : Cond.methodLink (mm_yn 140).cls 79 (mm_yn 108) ∈ mm_tb := mm_in 823 (by decide +kernel) rfl
theorem fk141_184 : mm_okf 141 184 9 21 := ⟨_, _, _, rfl, by decide +kernel, mm_in 732 (by decide +kernel) rfl⟩
theorem ln141_187 : Cond.methodLink (mm_yn 141).cls 187 (mm_yn 142) ∈ mm_tb := mm_in 955 (by decide +kernel) rfl
theorem im142 : Cond.instanceMethod (mm_yn 142) ∈ mm_tb := mm_in 957 (by decide +kernel) rfl
theorem se142 : Cond.selects (mm_yn 142).cls (mm_yn 142) (mm_yn 142) ∈ mm_tb := mm_ins 42 (by decide +kernel) rfl
theorem fk142_59 : mm_okf 142 59 9 22 := ⟨_, _, _, rfl, by decide +kernel, mm_in 733 (by decide +kernel) rfl⟩
theorem fk142_184 : mm_okf 142 184 9 21 := ⟨_, _, _, rfl, by decide +kernel, mm_in 732 (by decide +kernel) rfl⟩
theorem fk142_29 : mm_okf 142 29 9 7 := ⟨_, _, _, rfl, by decide +kernel, mm_in 718 (by decide +kernel) rfl⟩
theorem fk142_62 : mm_okf 142 62 9 23 := ⟨_, _, _, rfl, by decide +kernel, mm_in 734 (by decide +kernel) rfl⟩
theorem fk142_13 : mm_okf 142 13 9 2 := ⟨_, _, _, rfl, by decide +kernel, mm_in 713 (by decide +kernel) rfl⟩
theorem fk142_26 : mm_okf 142 26 9 6 := ⟨_, _, _, rfl, by decide +kernel, mm_in 717 (by decide +kernel) rfl⟩
theorem fk142_7 : mm_okf 142 7 9 1 := ⟨_, _, _, rfl, by decide +kernel, mm_in 712 (by decide +kernel) rfl⟩
theorem ln142_124 : Cond.methodLink (mm_yn 142).cls 124 (mm_yn 120) ∈ mm_tb := mm_in 869 (by decide +kernel) rfl
theorem fk142_181 : mm_okf 142 181 9 24 := ⟨_, _, _, rfl, by decide +kernel, mm_in 735 (by decide +kernel) rfl⟩
theorem fp142_184 : mm_okp 142 9 21 := fun C T N h => by
  cases h
  exact Or.inl rfl
theorem ln142_75 : Cond.methodLink (mm_yn 142).cls 75 (mm_yn 107) ∈ mm_tb := mm_in 819 (by decide +kernel) rfl
theorem fk143_65 : mm_okf 143 65 9 0 := ⟨_, _, _, rfl, by decide +kernel, mm_in 711 (by decide +kernel) rfl⟩
theorem fp143_65 : mm_okp 143 9 0 := fun C T N h => by
  cases h
  exact Or.inl rfl
theorem fk143_170 : mm_okf 143 170 9 25 := ⟨_, _, _, rfl, by decide +kernel, mm_in 736 (by decide +kernel) rfl⟩
theorem fk144_65 : mm_okf 144 65 9 0 := ⟨_, _, _, rfl, by decide +kernel, mm_in 711 (by decide +kernel) rfl⟩
theorem fp144_65 : mm_okp 144 9 0 := fun C T N h => by
  cases h
  exact Or.inl rfl
theorem fk144_173 : mm_okf 144 173 9 26 := ⟨_, _, _, rfl, by decide +kernel, mm_in 737 (by decide +kernel) rfl⟩
theorem ln145_51 : Cond.methodLink (mm_yn 145).cls 51 (mm_yn 0) ∈ mm_tb := mm_in 23 (by decide +kernel) rfl
theorem im0 : Cond.instanceMethod (mm_yn 0) ∈ mm_tb := mm_in 24 (by decide +kernel) rfl
theorem ln145_54 : Cond.methodLink (mm_yn 145).cls 54 (mm_yn 99) ∈ mm_tb := mm_in 707 (by decide +kernel) rfl
theorem im99 : Cond.instanceMethod (mm_yn 99) ∈ mm_tb := mm_in 708 (by decide +kernel) rfl
theorem cb15 : (Int8.ofInt 15).toInt32 = 15 := by decide +kernel
theorem ln145_55 : Cond.methodLink (mm_yn 145).cls 55 (mm_yn 15) ∈ mm_tb := mm_in 238 (by decide +kernel) rfl
theorem st15 : Cond.static (mm_yn 15) ∈ mm_tb := mm_in 239 (by decide +kernel) rfl
theorem ln145_60 : Cond.methodLink (mm_yn 145).cls 60 (mm_yn 101) ∈ mm_tb := mm_in 797 (by decide +kernel) rfl
theorem im101 : Cond.instanceMethod (mm_yn 101) ∈ mm_tb := mm_in 798 (by decide +kernel) rfl
theorem se101 : Cond.selects (mm_yn 101).cls (mm_yn 101) (mm_yn 101) ∈ mm_tb := mm_in 799 (by decide +kernel) rfl
theorem ln145_61 : Cond.methodLink (mm_yn 145).cls 61 (mm_yn 100) ∈ mm_tb := mm_in 793 (by decide +kernel) rfl
theorem im100 : Cond.instanceMethod (mm_yn 100) ∈ mm_tb := mm_in 794 (by decide +kernel) rfl
theorem se100 : Cond.selects (mm_yn 100).cls (mm_yn 100) (mm_yn 100) ∈ mm_tb := mm_in 795 (by decide +kernel) rfl
theorem ln145_65 : Cond.methodLink (mm_yn 145).cls 65 (mm_yn 35) ∈ mm_tb := mm_in 426 (by decide +kernel) rfl
theorem st35 : Cond.static (mm_yn 35) ∈ mm_tb := mm_in 427 (by decide +kernel) rfl
theorem ln145_68 : Cond.methodLink (mm_yn 145).cls 68 (mm_yn 103) ∈ mm_tb := mm_in 804 (by decide +kernel) rfl
theorem im103 : Cond.instanceMethod (mm_yn 103) ∈ mm_tb := mm_in 805 (by decide +kernel) rfl
theorem se103 : Cond.selects (mm_yn 103).cls (mm_yn 103) (mm_yn 103) ∈ mm_tb := mm_in 806 (by decide +kernel) rfl
theorem cb32 : (Int8.ofInt 32).toInt32 = 32 := by decide +kernel
theorem kl145_69 : Cond.constantLong (mm_yn 145).cls 69 4294967295 ∈ mm_tb := mm_in 967 (by decide +kernel) rfl
theorem ln145_71 : Cond.methodLink (mm_yn 145).cls 71 (mm_yn 38) ∈ mm_tb := mm_in 438 (by decide +kernel) rfl
theorem st38 : Cond.static (mm_yn 38) ∈ mm_tb := mm_in 439 (by decide +kernel) rfl
theorem ln145_74 : Cond.methodLink (mm_yn 145).cls 74 (mm_yn 116) ∈ mm_tb := mm_in 853 (by decide +kernel) rfl
theorem im116 : Cond.instanceMethod (mm_yn 116) ∈ mm_tb := mm_in 854 (by decide +kernel) rfl
theorem se116 : Cond.selects (mm_yn 116).cls (mm_yn 116) (mm_yn 116) ∈ mm_tb := mm_in 855 (by decide +kernel) rfl
theorem ln145_75 : Cond.methodLink (mm_yn 145).cls 75 (mm_yn 52) ∈ mm_tb := mm_in 497 (by decide +kernel) rfl
theorem st52 : Cond.static (mm_yn 52) ∈ mm_tb := mm_in 498 (by decide +kernel) rfl
theorem ln145_77 : Cond.methodLink (mm_yn 145).cls 77 (mm_yn 110) ∈ mm_tb := mm_in 830 (by decide +kernel) rfl
theorem im110 : Cond.instanceMethod (mm_yn 110) ∈ mm_tb := mm_in 831 (by decide +kernel) rfl
theorem se110 : Cond.selects (mm_yn 110).cls (mm_yn 110) (mm_yn 110) ∈ mm_tb := mm_in 832 (by decide +kernel) rfl
theorem ln145_78 : Cond.methodLink (mm_yn 145).cls 78 (mm_yn 55) ∈ mm_tb := mm_in 509 (by decide +kernel) rfl
theorem st55 : Cond.static (mm_yn 55) ∈ mm_tb := mm_in 510 (by decide +kernel) rfl
theorem ln145_80 : Cond.methodLink (mm_yn 145).cls 80 (mm_yn 123) ∈ mm_tb := mm_in 880 (by decide +kernel) rfl
theorem im123 : Cond.instanceMethod (mm_yn 123) ∈ mm_tb := mm_in 881 (by decide +kernel) rfl
theorem se123 : Cond.selects (mm_yn 123).cls (mm_yn 123) (mm_yn 123) ∈ mm_tb := mm_in 882 (by decide +kernel) rfl
theorem ln145_81 : Cond.methodLink (mm_yn 145).cls 81 (mm_yn 9) ∈ mm_tb := mm_in 214 (by decide +kernel) rfl
theorem im9 : Cond.instanceMethod (mm_yn 9) ∈ mm_tb := mm_in 215 (by decide +kernel) rfl
theorem se9 : Cond.selects (mm_yn 9).cls (mm_yn 9) (mm_yn 9) ∈ mm_tb := mm_in 216 (by decide +kernel) rfl
theorem ln145_84 : Cond.methodLink (mm_yn 145).cls 84 (mm_yn 125) ∈ mm_tb := mm_in 888 (by decide +kernel) rfl
theorem im125 : Cond.instanceMethod (mm_yn 125) ∈ mm_tb := mm_in 889 (by decide +kernel) rfl
theorem se125 : Cond.selects (mm_yn 125).cls (mm_yn 125) (mm_yn 125) ∈ mm_tb := mm_in 890 (by decide +kernel) rfl
theorem ln145_85 : Cond.methodLink (mm_yn 145).cls 85 (mm_yn 63) ∈ mm_tb := mm_in 548 (by decide +kernel) rfl
theorem st63 : Cond.static (mm_yn 63) ∈ mm_tb := mm_in 549 (by decide +kernel) rfl
theorem ln145_87 : Cond.methodLink (mm_yn 145).cls 87 (mm_yn 126) ∈ mm_tb := mm_in 892 (by decide +kernel) rfl
theorem im126 : Cond.instanceMethod (mm_yn 126) ∈ mm_tb := mm_in 893 (by decide +kernel) rfl
theorem se126 : Cond.selects (mm_yn 126).cls (mm_yn 126) (mm_yn 126) ∈ mm_tb := mm_in 894 (by decide +kernel) rfl
theorem ln145_88 : Cond.methodLink (mm_yn 145).cls 88 (mm_yn 70) ∈ mm_tb := mm_in 576 (by decide +kernel) rfl
theorem st70 : Cond.static (mm_yn 70) ∈ mm_tb := mm_in 577 (by decide +kernel) rfl
theorem ln145_90 : Cond.methodLink (mm_yn 145).cls 90 (mm_yn 129) ∈ mm_tb := mm_in 903 (by decide +kernel) rfl
theorem im129 : Cond.instanceMethod (mm_yn 129) ∈ mm_tb := mm_in 904 (by decide +kernel) rfl
theorem se129 : Cond.selects (mm_yn 129).cls (mm_yn 129) (mm_yn 129) ∈ mm_tb := mm_in 905 (by decide +kernel) rfl
theorem ln145_91 : Cond.methodLink (mm_yn 145).cls 91 (mm_yn 72) ∈ mm_tb := mm_in 583 (by decide +kernel) rfl
theorem st72 : Cond.static (mm_yn 72) ∈ mm_tb := mm_in 584 (by decide +kernel) rfl
theorem ln145_94 : Cond.methodLink (mm_yn 145).cls 94 (mm_yn 130) ∈ mm_tb := mm_in 907 (by decide +kernel) rfl
theorem im130 : Cond.instanceMethod (mm_yn 130) ∈ mm_tb := mm_in 908 (by decide +kernel) rfl
theorem se130 : Cond.selects (mm_yn 130).cls (mm_yn 130) (mm_yn 130) ∈ mm_tb := mm_in 909 (by decide +kernel) rfl
theorem ln145_95 : Cond.methodLink (mm_yn 145).cls 95 (mm_yn 11) ∈ mm_tb := mm_in 222 (by decide +kernel) rfl
theorem im11 : Cond.instanceMethod (mm_yn 11) ∈ mm_tb := mm_in 223 (by decide +kernel) rfl
theorem se11 : Cond.selects (mm_yn 11).cls (mm_yn 11) (mm_yn 11) ∈ mm_tb := mm_in 224 (by decide +kernel) rfl
theorem ln145_98 : Cond.methodLink (mm_yn 145).cls 98 (mm_yn 131) ∈ mm_tb := mm_in 911 (by decide +kernel) rfl
theorem im131 : Cond.instanceMethod (mm_yn 131) ∈ mm_tb := mm_in 912 (by decide +kernel) rfl
theorem se131 : Cond.selects (mm_yn 131).cls (mm_yn 131) (mm_yn 131) ∈ mm_tb := mm_in 913 (by decide +kernel) rfl
theorem ln145_99 : Cond.methodLink (mm_yn 145).cls 99 (mm_yn 77) ∈ mm_tb := mm_in 605 (by decide +kernel) rfl
theorem st77 : Cond.static (mm_yn 77) ∈ mm_tb := mm_in 606 (by decide +kernel) rfl
theorem ln145_101 : Cond.methodLink (mm_yn 145).cls 101 (mm_yn 132) ∈ mm_tb := mm_in 915 (by decide +kernel) rfl
theorem im132 : Cond.instanceMethod (mm_yn 132) ∈ mm_tb := mm_in 916 (by decide +kernel) rfl
theorem se132 : Cond.selects (mm_yn 132).cls (mm_yn 132) (mm_yn 132) ∈ mm_tb := mm_in 917 (by decide +kernel) rfl
theorem ln145_102 : Cond.methodLink (mm_yn 145).cls 102 (mm_yn 89) ∈ mm_tb := mm_in 653 (by decide +kernel) rfl
theorem st89 : Cond.static (mm_yn 89) ∈ mm_tb := mm_in 654 (by decide +kernel) rfl
theorem ln145_104 : Cond.methodLink (mm_yn 145).cls 104 (mm_yn 138) ∈ mm_tb := mm_in 939 (by decide +kernel) rfl
theorem im138 : Cond.instanceMethod (mm_yn 138) ∈ mm_tb := mm_in 940 (by decide +kernel) rfl
theorem se138 : Cond.selects (mm_yn 138).cls (mm_yn 138) (mm_yn 138) ∈ mm_tb := mm_in 941 (by decide +kernel) rfl
theorem ln145_105 : Cond.methodLink (mm_yn 145).cls 105 (mm_yn 13) ∈ mm_tb := mm_in 230 (by decide +kernel) rfl
theorem im13 : Cond.instanceMethod (mm_yn 13) ∈ mm_tb := mm_in 231 (by decide +kernel) rfl
theorem se13 : Cond.selects (mm_yn 13).cls (mm_yn 13) (mm_yn 13) ∈ mm_tb := mm_in 232 (by decide +kernel) rfl
theorem ln145_108 : Cond.methodLink (mm_yn 145).cls 108 (mm_yn 143) ∈ mm_tb := mm_in 959 (by decide +kernel) rfl
theorem im143 : Cond.instanceMethod (mm_yn 143) ∈ mm_tb := mm_in 960 (by decide +kernel) rfl
theorem se143 : Cond.selects (mm_yn 143).cls (mm_yn 143) (mm_yn 143) ∈ mm_tb := mm_in 961 (by decide +kernel) rfl
theorem ln145_109 : Cond.methodLink (mm_yn 145).cls 109 (mm_yn 14) ∈ mm_tb := mm_in 234 (by decide +kernel) rfl
theorem im14 : Cond.instanceMethod (mm_yn 14) ∈ mm_tb := mm_in 235 (by decide +kernel) rfl
theorem se14 : Cond.selects (mm_yn 14).cls (mm_yn 14) (mm_yn 14) ∈ mm_tb := mm_in 236 (by decide +kernel) rfl
theorem ln145_113 : Cond.methodLink (mm_yn 145).cls 113 (mm_yn 144) ∈ mm_tb := mm_in 963 (by decide +kernel) rfl
theorem im144 : Cond.instanceMethod (mm_yn 144) ∈ mm_tb := mm_in 964 (by decide +kernel) rfl
theorem se144 : Cond.selects (mm_yn 144).cls (mm_yn 144) (mm_yn 144) ∈ mm_tb := mm_in 965 (by decide +kernel) rfl
theorem ci6 : Int32.ofInt 6 = 6 := by decide +kernel
theorem lc0 : Int64.ofNat ((0 : Fin 2) : Nat) = 0 := by decide +kernel
theorem lc1 : Int64.ofNat ((1 : Fin 2) : Nat) = 1 := by decide +kernel
end
