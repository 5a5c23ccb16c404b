/-! ===== links ===== -/
def mm_Λ : List mm_K := [(2, 0, [.ref 1, .ref 5, .ref 8, .ref 11, .ref 13, .ref 17, .ref 19, .ref 24, .null, .null]), (2, 1, [.ref 2, .ref 3, .ref 4]), (0, 6, []), (0, 24, []), (0, 72, []), (2, 2, [.ref 1, .ref 6, .ref 7]), (1, 30, []), (1, 120, []), (2, 3, [.ref 1, .ref 9, .ref 10]), (1, 78, []), (1, 1248, []), (2, 4, [.ref 12, .null]), (0, 121, []), (2, 5, [.ref 1, .ref 5, .ref 14, .ref 15, .ref 16]), (0, 256, []), (0, 256, []), (0, 256, []), (2, 6, [.ref 1, .ref 8, .ref 11, .ref 18]), (0, 39, []), (2, 7, [.ref 20, .ref 21, .ref 22, .ref 23, .null, .null]), (0, 20, []), (0, 20, []), (0, 20, []), (0, 20, []), (2, 8, [.ref 13, .ref 19, .ref 25, .null, .null, .null]), (0, 121, []), (2, 9, [.null, .ref 27, .ref 28, .ref 29, .ref 30, .ref 31, .ref 32, .ref 33, .null, .ref 34, .null, .ref 35, .ref 36, .ref 37, .null, .ref 38, .ref 39, .ref 40, .ref 41, .null, .ref 42, .null, .ref 43, .ref 44, .null, .null, .null]), (0, 6, []), (0, 24, []), (0, 72, []), (1, 36, []), (1, 78, []), (0, 256, []), (0, 256, []), (0, 256, []), (0, 512, []), (0, 512, []), (1, 512, []), (0, 20, []), (0, 20, []), (0, 20, []), (0, 20, []), (0, 20, []), (0, 256, []), (0, 256, []), (1, 1, [])]
theorem oi0_1 : Cond.methodLink (mm_yn 0).cls 1 Lib.objectInit ∈ mm_tb := mm_in 26 (by decide +kernel) rfl
theorem ln0_9 : Cond.methodLinkNest (mm_yn 0).cls 9 (mm_yn 1) "LazyTester" ∈ mm_tb := mm_in 31 (by decide +kernel) rfl
theorem im1 : Cond.instanceMethod (mm_yn 1) ∈ mm_tb := mm_in 32 (by decide +kernel) rfl
theorem fk0_10 : mm_okf 0 10 0 0 := ⟨_, _, _, rfl, by decide +kernel, mm_in 183 (by decide +kernel) rfl⟩
theorem fp0_10 : mm_okp 0 0 0 := fun C T N h => by
  cases h
  exact Or.inr ⟨rfl, rfl, rfl⟩
theorem ln0_18 : Cond.methodLink (mm_yn 0).cls 18 (mm_yn 2) ∈ mm_tb := mm_in 48 (by decide +kernel) rfl
theorem im2 : Cond.instanceMethod (mm_yn 2) ∈ mm_tb := mm_in 49 (by decide +kernel) rfl
theorem fk0_21 : mm_okf 0 21 0 1 := ⟨_, _, _, rfl, by decide +kernel, mm_in 184 (by decide +kernel) rfl⟩
theorem fp0_21 : mm_okp 0 0 1 := fun C T N h => by
  cases h
  exact Or.inr ⟨rfl, rfl, rfl⟩
theorem ln0_27 : Cond.methodLink (mm_yn 0).cls 27 (mm_yn 3) ∈ mm_tb := mm_in 65 (by decide +kernel) rfl
theorem im3 : Cond.instanceMethod (mm_yn 3) ∈ mm_tb := mm_in 66 (by decide +kernel) rfl
theorem fk0_28 : mm_okf 0 28 0 2 := ⟨_, _, _, rfl, by decide +kernel, mm_in 185 (by decide +kernel) rfl⟩
theorem fp0_28 : mm_okp 0 0 2 := fun C T N h => by
  cases h
  exact Or.inr ⟨rfl, rfl, rfl⟩
theorem ln0_34 : Cond.methodLinkNest (mm_yn 0).cls 34 (mm_yn 4) "LazyTester" ∈ mm_tb := mm_in 81 (by decide +kernel) rfl
theorem im4 : Cond.instanceMethod (mm_yn 4) ∈ mm_tb := mm_in 82 (by decide +kernel) rfl
theorem fk0_35 : mm_okf 0 35 0 3 := ⟨_, _, _, rfl, by decide +kernel, mm_in 186 (by decide +kernel) rfl⟩
theorem fp0_35 : mm_okp 0 0 3 := fun C T N h => by
  cases h
  exact Or.inr ⟨rfl, rfl, rfl⟩
theorem ln0_41 : Cond.methodLink (mm_yn 0).cls 41 (mm_yn 5) ∈ mm_tb := mm_in 94 (by decide +kernel) rfl
theorem im5 : Cond.instanceMethod (mm_yn 5) ∈ mm_tb := mm_in 95 (by decide +kernel) rfl
theorem fk0_44 : mm_okf 0 44 0 4 := ⟨_, _, _, rfl, by decide +kernel, mm_in 187 (by decide +kernel) rfl⟩
theorem fp0_44 : mm_okp 0 0 4 := fun C T N h => by
  cases h
  exact Or.inr ⟨rfl, rfl, rfl⟩
theorem ln0_50 : Cond.methodLink (mm_yn 0).cls 50 (mm_yn 6) ∈ mm_tb := mm_in 116 (by decide +kernel) rfl
theorem im6 : Cond.instanceMethod (mm_yn 6) ∈ mm_tb := mm_in 117 (by decide +kernel) rfl
theorem fk0_53 : mm_okf 0 53 0 5 := ⟨_, _, _, rfl, by decide +kernel, mm_in 188 (by decide +kernel) rfl⟩
theorem fp0_53 : mm_okp 0 0 5 := fun C T N h => by
  cases h
  exact Or.inr ⟨rfl, rfl, rfl⟩
theorem ln0_59 : Cond.methodLinkNest (mm_yn 0).cls 59 (mm_yn 7) "LazyTester" ∈ mm_tb := mm_in 135 (by decide +kernel) rfl
theorem im7 : Cond.instanceMethod (mm_yn 7) ∈ mm_tb := mm_in 136 (by decide +kernel) rfl
theorem fk0_60 : mm_okf 0 60 0 6 := ⟨_, _, _, rfl, by decide +kernel, mm_in 189 (by decide +kernel) rfl⟩
theorem fp0_60 : mm_okp 0 0 6 := fun C T N h => by
  cases h
  exact Or.inr ⟨rfl, rfl, rfl⟩
theorem ln0_66 : Cond.methodLink (mm_yn 0).cls 66 (mm_yn 8) ∈ mm_tb := mm_in 160 (by decide +kernel) rfl
theorem im8 : Cond.instanceMethod (mm_yn 8) ∈ mm_tb := mm_in 161 (by decide +kernel) rfl
theorem fk0_69 : mm_okf 0 69 0 7 := ⟨_, _, _, rfl, by decide +kernel, mm_in 190 (by decide +kernel) rfl⟩
theorem fp0_69 : mm_okp 0 0 7 := fun C T N h => by
  cases h
  exact Or.inr ⟨rfl, rfl, rfl⟩
theorem ci0 : Int32.ofInt 0 = 0 := by decide +kernel
theorem fk0_73 : mm_okf 0 73 0 8 := ⟨_, _, _, rfl, by decide +kernel, mm_in 191 (by decide +kernel) rfl⟩
theorem fp0_73 : mm_okp 0 0 8 := fun C T N h => by
  cases h
  exact Or.inl rfl
theorem fk0_77 : mm_okf 0 77 0 9 := ⟨_, _, _, rfl, by decide +kernel, mm_in 192 (by decide +kernel) rfl⟩
theorem fp0_77 : mm_okp 0 0 9 := fun C T N h => by
  cases h
  exact Or.inl rfl
theorem oi1_3 : Cond.methodLink (mm_yn 1).cls 3 Lib.objectInit ∈ mm_tb := mm_in 34 (by decide +kernel) rfl
theorem cb6 : (Int8.ofInt 6).toInt32 = 6 := by decide +kernel
theorem fk1_9 : mm_okf 1 9 1 0 := ⟨_, _, _, rfl, by decide +kernel, mm_in 35 (by decide +kernel) rfl⟩
theorem fp1_9 : mm_okp 1 1 0 := fun C T N h => by
  cases h
  exact Or.inr ⟨rfl, rfl, rfl⟩
theorem cb24 : (Int8.ofInt 24).toInt32 = 24 := by decide +kernel
theorem fk1_15 : mm_okf 1 15 1 1 := ⟨_, _, _, rfl, by decide +kernel, mm_in 36 (by decide +kernel) rfl⟩
theorem fp1_15 : mm_okp 1 1 1 := fun C T N h => by
  cases h
  exact Or.inr ⟨rfl, rfl, rfl⟩
theorem cb72 : (Int8.ofInt 72).toInt32 = 72 := by decide +kernel
theorem fk1_18 : mm_okf 1 18 1 2 := ⟨_, _, _, rfl, by decide +kernel, mm_in 37 (by decide +kernel) rfl⟩
theorem fp1_18 : mm_okp 1 1 2 := fun C T N h => by
  cases h
  exact Or.inr ⟨rfl, rfl, rfl⟩
theorem oi2_3 : Cond.methodLink (mm_yn 2).cls 3 Lib.objectInit ∈ mm_tb := mm_in 51 (by decide +kernel) rfl
theorem cb30 : (Int8.ofInt 30).toInt32 = 30 := by decide +kernel
theorem fk2_11 : mm_okf 2 11 2 1 := ⟨_, _, _, rfl, by decide +kernel, mm_in 53 (by decide +kernel) rfl⟩
theorem fp2_11 : mm_okp 2 2 1 := fun C T N h => by
  cases h
  exact Or.inr ⟨rfl, rfl, rfl⟩
theorem cb120 : (Int8.ofInt 120).toInt32 = 120 := by decide +kernel
theorem fk2_15 : mm_okf 2 15 2 2 := ⟨_, _, _, rfl, by decide +kernel, mm_in 54 (by decide +kernel) rfl⟩
theorem fp2_15 : mm_okp 2 2 2 := fun C T N h => by
  cases h
  exact Or.inr ⟨rfl, rfl, rfl⟩
theorem fk2_18 : mm_okf 2 18 2 0 := ⟨_, _, _, rfl, by decide +kernel, mm_in 52 (by decide +kernel) rfl⟩
theorem fp2_18 : mm_okp 2 2 0 := fun C T N h => by
  cases h
  exact Or.inr ⟨rfl, rfl, rfl⟩
theorem oi3_3 : Cond.methodLink (mm_yn 3).cls 3 Lib.objectInit ∈ mm_tb := mm_in 68 (by decide +kernel) rfl
theorem cb78 : (Int8.ofInt 78).toInt32 = 78 := by decide +kernel
theorem fk3_11 : mm_okf 3 11 3 1 := ⟨_, _, _, rfl, by decide +kernel, mm_in 70 (by decide +kernel) rfl⟩
theorem fp3_11 : mm_okp 3 3 1 := fun C T N h => by
  cases h
  exact Or.inr ⟨rfl, rfl, rfl⟩
theorem cs1248 : (Int16.ofInt 1248).toInt32 = 1248 := by decide +kernel
theorem fk3_15 : mm_okf 3 15 3 2 := ⟨_, _, _, rfl, by decide +kernel, mm_in 71 (by decide +kernel) rfl⟩
theorem fp3_15 : mm_okp 3 3 2 := fun C T N h => by
  cases h
  exact Or.inr ⟨rfl, rfl, rfl⟩
theorem fk3_18 : mm_okf 3 18 3 0 := ⟨_, _, _, rfl, by decide +kernel, mm_in 69 (by decide +kernel) rfl⟩
theorem fp3_18 : mm_okp 3 3 0 := fun C T N h => by
  cases h
  exact Or.inr ⟨rfl, rfl, rfl⟩
theorem oi4_3 : Cond.methodLink (mm_yn 4).cls 3 Lib.objectInit ∈ mm_tb := mm_in 84 (by decide +kernel) rfl
theorem cb121 : (Int8.ofInt 121).toInt32 = 121 := by decide +kernel
theorem fk4_9 : mm_okf 4 9 4 0 := ⟨_, _, _, rfl, by decide +kernel, mm_in 85 (by decide +kernel) rfl⟩
theorem fp4_9 : mm_okp 4 4 0 := fun C T N h => by
  cases h
  exact Or.inr ⟨rfl, rfl, rfl⟩
theorem fk4_15 : mm_okf 4 15 4 1 := ⟨_, _, _, rfl, by decide +kernel, mm_in 86 (by decide +kernel) rfl⟩
theorem fp4_15 : mm_okp 4 4 1 := fun C T N h => by
  cases h
  exact Or.inl rfl
theorem oi5_3 : Cond.methodLink (mm_yn 5).cls 3 Lib.objectInit ∈ mm_tb := mm_in 97 (by decide +kernel) rfl
theorem cs256 : (Int16.ofInt 256).toInt32 = 256 := by decide +kernel
theorem fk5_9 : mm_okf 5 9 5 2 := ⟨_, _, _, rfl, by decide +kernel, mm_in 100 (by decide +kernel) rfl⟩
theorem fp5_9 : mm_okp 5 5 2 := fun C T N h => by
  cases h
  exact Or.inr ⟨rfl, rfl, rfl⟩
theorem fk5_15 : mm_okf 5 15 5 3 := ⟨_, _, _, rfl, by decide +kernel, mm_in 101 (by decide +kernel) rfl⟩
theorem fp5_15 : mm_okp 5 5 3 := fun C T N h => by
  cases h
  exact Or.inr ⟨rfl, rfl, rfl⟩
theorem fk5_18 : mm_okf 5 18 5 4 := ⟨_, _, _, rfl, by decide +kernel, mm_in 102 (by decide +kernel) rfl⟩
theorem fp5_18 : mm_okp 5 5 4 := fun C T N h => by
  cases h
  exact Or.inr ⟨rfl, rfl, rfl⟩
theorem fk5_21 : mm_okf 5 21 5 0 := ⟨_, _, _, rfl, by decide +kernel, mm_in 98 (by decide +kernel) rfl⟩
theorem fp5_21 : mm_okp 5 5 0 := fun C T N h => by
  cases h
  exact Or.inr ⟨rfl, rfl, rfl⟩
theorem fk5_25 : mm_okf 5 25 5 1 := ⟨_, _, _, rfl, by decide +kernel, mm_in 99 (by decide +kernel) rfl⟩
theorem fp5_25 : mm_okp 5 5 1 := fun C T N h => by
  cases h
  exact Or.inr ⟨rfl, rfl, rfl⟩
theorem oi6_3 : Cond.methodLink (mm_yn 6).cls 3 Lib.objectInit ∈ mm_tb := mm_in 119 (by decide +kernel) rfl
theorem cb39 : (Int8.ofInt 39).toInt32 = 39 := by decide +kernel
theorem fk6_9 : mm_okf 6 9 6 3 := ⟨_, _, _, rfl, by decide +kernel, mm_in 123 (by decide +kernel) rfl⟩
theorem fp6_9 : mm_okp 6 6 3 := fun C T N h => by
  cases h
  exact Or.inr ⟨rfl, rfl, rfl⟩
theorem fk6_15 : mm_okf 6 15 6 0 := ⟨_, _, _, rfl, by decide +kernel, mm_in 120 (by decide +kernel) rfl⟩
theorem fp6_15 : mm_okp 6 6 0 := fun C T N h => by
  cases h
  exact Or.inr ⟨rfl, rfl, rfl⟩
theorem fk6_19 : mm_okf 6 19 6 1 := ⟨_, _, _, rfl, by decide +kernel, mm_in 121 (by decide +kernel) rfl⟩
theorem fp6_19 : mm_okp 6 6 1 := fun C T N h => by
  cases h
  exact Or.inr ⟨rfl, rfl, rfl⟩
theorem fk6_23 : mm_okf 6 23 6 2 := ⟨_, _, _, rfl, by decide +kernel, mm_in 122 (by decide +kernel) rfl⟩
theorem fp6_23 : mm_okp 6 6 2 := fun C T N h => by
  cases h
  exact Or.inr ⟨rfl, rfl, rfl⟩
theorem oi7_3 : Cond.methodLink (mm_yn 7).cls 3 Lib.objectInit ∈ mm_tb := mm_in 138 (by decide +kernel) rfl
theorem cb20 : (Int8.ofInt 20).toInt32 = 20 := by decide +kernel
theorem fk7_9 : mm_okf 7 9 7 0 := ⟨_, _, _, rfl, by decide +kernel, mm_in 139 (by decide +kernel) rfl⟩
theorem fp7_9 : mm_okp 7 7 0 := fun C T N h => by
  cases h
  exact Or.inr ⟨rfl, rfl, rfl⟩
theorem fk7_15 : mm_okf 7 15 7 1 := ⟨_, _, _, rfl, by decide +kernel, mm_in 140 (by decide +kernel) rfl⟩
theorem fp7_15 : mm_okp 7 7 1 := fun C T N h => by
  cases h
  exact Or.inr ⟨rfl, rfl, rfl⟩
theorem fk7_18 : mm_okf 7 18 7 2 := ⟨_, _, _, rfl, by decide +kernel, mm_in 141 (by decide +kernel) rfl⟩
theorem fp7_18 : mm_okp 7 7 2 := fun C T N h => by
  cases h
  exact Or.inr ⟨rfl, rfl, rfl⟩
theorem fk7_21 : mm_okf 7 21 7 3 := ⟨_, _, _, rfl, by decide +kernel, mm_in 142 (by decide +kernel) rfl⟩
theorem fp7_21 : mm_okp 7 7 3 := fun C T N h => by
  cases h
  exact Or.inr ⟨rfl, rfl, rfl⟩
theorem fk7_24 : mm_okf 7 24 7 4 := ⟨_, _, _, rfl, by decide +kernel, mm_in 143 (by decide +kernel) rfl⟩
theorem fp7_24 : mm_okp 7 7 4 := fun C T N h => by
  cases h
  exact Or.inl rfl
theorem fk7_28 : mm_okf 7 28 7 5 := ⟨_, _, _, rfl, by decide +kernel, mm_in 144 (by decide +kernel) rfl⟩
theorem fp7_28 : mm_okp 7 7 5 := fun C T N h => by
  cases h
  exact Or.inl rfl
theorem oi8_3 : Cond.methodLink (mm_yn 8).cls 3 Lib.objectInit ∈ mm_tb := mm_in 163 (by decide +kernel) rfl
theorem fk8_9 : mm_okf 8 9 8 2 := ⟨_, _, _, rfl, by decide +kernel, mm_in 166 (by decide +kernel) rfl⟩
theorem fp8_9 : mm_okp 8 8 2 := fun C T N h => by
  cases h
  exact Or.inr ⟨rfl, rfl, rfl⟩
theorem fk8_15 : mm_okf 8 15 8 3 := ⟨_, _, _, rfl, by decide +kernel, mm_in 167 (by decide +kernel) rfl⟩
theorem fp8_15 : mm_okp 8 8 3 := fun C T N h => by
  cases h
  exact Or.inl rfl
theorem fk8_19 : mm_okf 8 19 8 4 := ⟨_, _, _, rfl, by decide +kernel, mm_in 168 (by decide +kernel) rfl⟩
theorem fp8_19 : mm_okp 8 8 4 := fun C T N h => by
  cases h
  exact Or.inl rfl
theorem fk8_22 : mm_okf 8 22 8 5 := ⟨_, _, _, rfl, by decide +kernel, mm_in 169 (by decide +kernel) rfl⟩
theorem fp8_22 : mm_okp 8 8 5 := fun C T N h => by
  cases h
  exact Or.inl rfl
theorem fk8_26 : mm_okf 8 26 8 0 := ⟨_, _, _, rfl, by decide +kernel, mm_in 164 (by decide +kernel) rfl⟩
theorem fp8_26 : mm_okp 8 8 0 := fun C T N h => by
  cases h
  exact Or.inr ⟨rfl, rfl, rfl⟩
theorem fk8_30 : mm_okf 8 30 8 1 := ⟨_, _, _, rfl, by decide +kernel, mm_in 165 (by decide +kernel) rfl⟩
theorem fp8_30 : mm_okp 8 8 1 := fun C T N h => by
  cases h
  exact Or.inr ⟨rfl, rfl, rfl⟩
theorem fk9_35 : mm_okf 9 35 0 3 := ⟨_, _, _, rfl, by decide +kernel, mm_in 186 (by decide +kernel) rfl⟩
theorem ln9_143 : Cond.methodLink (mm_yn 9).cls 143 (mm_yn 10) ∈ mm_tb := mm_in 218 (by decide +kernel) rfl
theorem im10 : Cond.instanceMethod (mm_yn 10) ∈ mm_tb := mm_in 219 (by decide +kernel) rfl
theorem se10 : Cond.selects (mm_yn 10).cls (mm_yn 10) (mm_yn 10) ∈ mm_tb := mm_in 220 (by decide +kernel) rfl
theorem fk10_15 : mm_okf 10 15 4 1 := ⟨_, _, _, rfl, by decide +kernel, mm_in 86 (by decide +kernel) rfl⟩
theorem cim1 : Int32.ofInt (-1) = (-1) := by decide +kernel
theorem fk10_9 : mm_okf 10 9 4 0 := ⟨_, _, _, rfl, by decide +kernel, mm_in 85 (by decide +kernel) rfl⟩
theorem fk11_60 : mm_okf 11 60 0 6 := ⟨_, _, _, rfl, by decide +kernel, mm_in 189 (by decide +kernel) rfl⟩
theorem ln11_171 : Cond.methodLink (mm_yn 11).cls 171 (mm_yn 12) ∈ mm_tb := mm_in 226 (by decide +kernel) rfl
theorem im12 : Cond.instanceMethod (mm_yn 12) ∈ mm_tb := mm_in 227 (by decide +kernel) rfl
theorem se12 : Cond.selects (mm_yn 12).cls (mm_yn 12) (mm_yn 12) ∈ mm_tb := mm_in 228 (by decide +kernel) rfl
theorem fk12_24 : mm_okf 12 24 7 4 := ⟨_, _, _, rfl, by decide +kernel, mm_in 143 (by decide +kernel) rfl⟩
theorem fp12_24 : mm_okp 12 7 4 := fun C T N h => by
  cases h
  exact Or.inl rfl
theorem fk12_28 : mm_okf 12 28 7 5 := ⟨_, _, _, rfl, by decide +kernel, mm_in 144 (by decide +kernel) rfl⟩
theorem fp12_28 : mm_okp 12 7 5 := fun C T N h => by
  cases h
  exact Or.inl rfl
theorem fk13_73 : mm_okf 13 73 0 8 := ⟨_, _, _, rfl, by decide +kernel, mm_in 191 (by decide +kernel) rfl⟩
theorem fk14_77 : mm_okf 14 77 0 9 := ⟨_, _, _, rfl, by decide +kernel, mm_in 192 (by decide +kernel) rfl⟩
theorem ln15_7 : Cond.methodLink (mm_yn 15).cls 7 (mm_yn 16) ∈ mm_tb := mm_in 244 (by decide +kernel) rfl
theorem im16 : Cond.instanceMethod (mm_yn 16) ∈ mm_tb := mm_in 245 (by decide +kernel) rfl
theorem se16 : Cond.selects (mm_yn 16).cls (mm_yn 16) (mm_yn 16) ∈ mm_tb := mm_in 246 (by decide +kernel) rfl
theorem ci1 : Int32.ofInt 1 = 1 := by decide +kernel
theorem ci2 : Int32.ofInt 2 = 2 := by decide +kernel
theorem ci3 : Int32.ofInt 3 = 3 := by decide +kernel
theorem ln16_81 : Cond.methodLink (mm_yn 16).cls 81 (mm_yn 17) ∈ mm_tb := mm_in 248 (by decide +kernel) rfl
theorem st17 : Cond.static (mm_yn 17) ∈ mm_tb := mm_in 249 (by decide +kernel) rfl
theorem ln16_92 : Cond.methodLink (mm_yn 16).cls 92 (mm_yn 18) ∈ mm_tb := mm_in 335 (by decide +kernel) rfl
theorem st18 : Cond.static (mm_yn 18) ∈ mm_tb := mm_in 336 (by decide +kernel) rfl
theorem fk16_10 : mm_okf 16 10 0 0 := ⟨_, _, _, rfl, by decide +kernel, mm_in 183 (by decide +kernel) rfl⟩
theorem ln16_96 : Cond.methodLink (mm_yn 16).cls 96 (mm_yn 19) ∈ mm_tb := mm_in 339 (by decide +kernel) rfl
theorem im19 : Cond.instanceMethod (mm_yn 19) ∈ mm_tb := mm_in 340 (by decide +kernel) rfl
theorem se19 : Cond.selects (mm_yn 19).cls (mm_yn 19) (mm_yn 19) ∈ mm_tb := mm_in 341 (by decide +kernel) rfl
theorem ci4 : Int32.ofInt 4 = 4 := by decide +kernel
theorem ln16_105 : Cond.methodLink (mm_yn 16).cls 105 (mm_yn 20) ∈ mm_tb := mm_in 359 (by decide +kernel) rfl
theorem im20 : Cond.instanceMethod (mm_yn 20) ∈ mm_tb := mm_in 360 (by decide +kernel) rfl
theorem se20 : Cond.selects (mm_yn 20).cls (mm_yn 20) (mm_yn 20) ∈ mm_tb := mm_in 361 (by decide +kernel) rfl
theorem fk16_21 : mm_okf 16 21 0 1 := ⟨_, _, _, rfl, by decide +kernel, mm_in 184 (by decide +kernel) rfl⟩
theorem ln16_109 : Cond.methodLink (mm_yn 16).cls 109 (mm_yn 22) ∈ mm_tb := mm_in 366 (by decide +kernel) rfl
theorem im22 : Cond.instanceMethod (mm_yn 22) ∈ mm_tb := mm_in 367 (by decide +kernel) rfl
theorem se22 : Cond.selects (mm_yn 22).cls (mm_yn 22) (mm_yn 22) ∈ mm_tb := mm_in 368 (by decide +kernel) rfl
theorem fk16_28 : mm_okf 16 28 0 2 := ⟨_, _, _, rfl, by decide +kernel, mm_in 185 (by decide +kernel) rfl⟩
theorem ln16_112 : Cond.methodLink (mm_yn 16).cls 112 (mm_yn 30) ∈ mm_tb := mm_in 402 (by decide +kernel) rfl
theorem im30 : Cond.instanceMethod (mm_yn 30) ∈ mm_tb := mm_in 403 (by decide +kernel) rfl
theorem se30 : Cond.selects (mm_yn 30).cls (mm_yn 30) (mm_yn 30) ∈ mm_tb := mm_in 404 (by decide +kernel) rfl
theorem ln18_81 : Cond.methodLink (mm_yn 18).cls 81 (mm_yn 17) ∈ mm_tb := mm_in 248 (by decide +kernel) rfl
theorem fk19_9 : mm_okf 19 9 1 0 := ⟨_, _, _, rfl, by decide +kernel, mm_in 35 (by decide +kernel) rfl⟩
theorem fk20_9 : mm_okf 20 9 1 0 := ⟨_, _, _, rfl, by decide +kernel, mm_in 35 (by decide +kernel) rfl⟩
theorem ln20_21 : Cond.methodLink (mm_yn 20).cls 21 (mm_yn 21) ∈ mm_tb := mm_in 363 (by decide +kernel) rfl
theorem st21 : Cond.static (mm_yn 21) ∈ mm_tb := mm_in 364 (by decide +kernel) rfl
theorem fk20_15 : mm_okf 20 15 1 1 := ⟨_, _, _, rfl, by decide +kernel, mm_in 36 (by decide +kernel) rfl⟩
theorem fk20_18 : mm_okf 20 18 1 2 := ⟨_, _, _, rfl, by decide +kernel, mm_in 37 (by decide +kernel) rfl⟩
theorem ci5 : Int32.ofInt 5 = 5 := by decide +kernel
theorem ln22_22 : Cond.methodLink (mm_yn 22).cls 22 (mm_yn 23) ∈ mm_tb := mm_in 370 (by decide +kernel) rfl
theorem im23 : Cond.instanceMethod (mm_yn 23) ∈ mm_tb := mm_in 372 (by decide +kernel) rfl
theorem se23 : Cond.selects (mm_yn 23).cls (mm_yn 23) (mm_yn 23) ∈ mm_tb := mm_ins 1 (by decide +kernel) rfl
theorem fk23_18 : mm_okf 23 18 2 0 := ⟨_, _, _, rfl, by decide +kernel, mm_in 52 (by decide +kernel) rfl⟩
theorem ln23_26 : Cond.methodLink (mm_yn 23).cls 26 (mm_yn 19) ∈ mm_tb := mm_in 374 (by decide +kernel) rfl
theorem ln23_32 : Cond.methodLink (mm_yn 23).cls 32 (mm_yn 21) ∈ mm_tb := mm_in 375 (by decide +kernel) rfl
theorem ln23_36 : Cond.methodLink (mm_yn 23).cls 36 (mm_yn 24) ∈ mm_tb := mm_in 376 (by decide +kernel) rfl
theorem im24 : Cond.instanceMethod (mm_yn 24) ∈ mm_tb := mm_in 377 (by decide +kernel) rfl
theorem se24 : Cond.selects (mm_yn 24).cls (mm_yn 24) (mm_yn 24) ∈ mm_tb := mm_in 378 (by decide +kernel) rfl
theorem ln23_39 : Cond.methodLink (mm_yn 23).cls 39 (mm_yn 25) ∈ mm_tb := mm_in 380 (by decide +kernel) rfl
theorem im25 : Cond.instanceMethod (mm_yn 25) ∈ mm_tb := mm_in 381 (by decide +kernel) rfl
theorem se25 : Cond.selects (mm_yn 25).cls (mm_yn 25) (mm_yn 25) ∈ mm_tb := mm_in 382 (by decide +kernel) rfl
theorem fk23_15 : mm_okf 23 15 2 2 := ⟨_, _, _, rfl, by decide +kernel, mm_in 54 (by decide +kernel) rfl⟩
theorem ln23_43 : Cond.methodLinkNest (mm_yn 23).cls 43 (mm_yn 29) "LazyTester" ∈ mm_tb := mm_in 396 (by decide +kernel) rfl
theorem st29 : Cond.static (mm_yn 29) ∈ mm_tb := mm_in 397 (by decide +kernel) rfl
theorem fk23_11 : mm_okf 23 11 2 1 := ⟨_, _, _, rfl, by decide +kernel, mm_in 53 (by decide +kernel) rfl⟩
theorem fk24_15 : mm_okf 24 15 1 1 := ⟨_, _, _, rfl, by decide +kernel, mm_in 36 (by decide +kernel) rfl⟩
theorem fk25_18 : mm_okf 25 18 2 0 := ⟨_, _, _, rfl, by decide +kernel, mm_in 52 (by decide +kernel) rfl⟩
theorem ln25_36 : Cond.methodLink (mm_yn 25).cls 36 (mm_yn 24) ∈ mm_tb := mm_in 376 (by decide +kernel) rfl
theorem ln25_47 : Cond.methodLink (mm_yn 25).cls 47 (mm_yn 26) ∈ mm_tb := mm_in 384 (by decide +kernel) rfl
theorem im26 : Cond.instanceMethod (mm_yn 26) ∈ mm_tb := mm_in 385 (by decide +kernel) rfl
theorem se26 : Cond.selects (mm_yn 26).cls (mm_yn 26) (mm_yn 26) ∈ mm_tb := mm_in 386 (by decide +kernel) rfl
theorem ln25_50 : Cond.methodLink (mm_yn 25).cls 50 (mm_yn 27) ∈ mm_tb := mm_in 388 (by decide +kernel) rfl
theorem im27 : Cond.instanceMethod (mm_yn 27) ∈ mm_tb := mm_in 389 (by decide +kernel) rfl
theorem se27 : Cond.selects (mm_yn 27).cls (mm_yn 27) (mm_yn 27) ∈ mm_tb := mm_in 390 (by decide +kernel) rfl
theorem ln25_54 : Cond.methodLinkNest (mm_yn 25).cls 54 (mm_yn 28) "LazyTester" ∈ mm_tb := mm_in 392 (by decide +kernel) rfl
theorem st28 : Cond.static (mm_yn 28) ∈ mm_tb := mm_in 393 (by decide +kernel) rfl
theorem fk26_18 : mm_okf 26 18 1 2 := ⟨_, _, _, rfl, by decide +kernel, mm_in 37 (by decide +kernel) rfl⟩
theorem fk27_11 : mm_okf 27 11 2 1 := ⟨_, _, _, rfl, by decide +kernel, mm_in 53 (by decide +kernel) rfl⟩
theorem kl28_238 : Cond.constantLong (mm_yn 28).cls 238 1000000000000000 ∈ mm_tb := mm_in 395 (by decide +kernel) rfl
theorem kl29_238 : Cond.constantLong (mm_yn 29).cls 238 1000000000000000 ∈ mm_tb := mm_in 395 (by decide +kernel) rfl
theorem mi29_240 : Cond.methodLink (mm_yn 29).cls 240 Lib.MathLoose.min_long.x ∈ mm_tb := mm_in 399 (by decide +kernel) rfl
theorem cb12 : (Int8.ofInt 12).toInt32 = 12 := by decide +kernel
theorem ln30_22 : Cond.methodLink (mm_yn 30).cls 22 (mm_yn 31) ∈ mm_tb := mm_in 406 (by decide +kernel) rfl
theorem im31 : Cond.instanceMethod (mm_yn 31) ∈ mm_tb := mm_in 408 (by decide +kernel) rfl
theorem se31 : Cond.selects (mm_yn 31).cls (mm_yn 31) (mm_yn 31) ∈ mm_tb := mm_ins 2 (by decide +kernel) rfl
theorem fk31_18 : mm_okf 31 18 3 0 := ⟨_, _, _, rfl, by decide +kernel, mm_in 69 (by decide +kernel) rfl⟩
theorem ln31_26 : Cond.methodLink (mm_yn 31).cls 26 (mm_yn 19) ∈ mm_tb := mm_in 410 (by decide +kernel) rfl
theorem ln31_32 : Cond.methodLink (mm_yn 31).cls 32 (mm_yn 21) ∈ mm_tb := mm_in 411 (by decide +kernel) rfl
theorem ln31_36 : Cond.methodLink (mm_yn 31).cls 36 (mm_yn 24) ∈ mm_tb := mm_in 412 (by decide +kernel) rfl
theorem fk31_15 : mm_okf 31 15 3 2 := ⟨_, _, _, rfl, by decide +kernel, mm_in 71 (by decide +kernel) rfl⟩
theorem cb13 : (Int8.ofInt 13).toInt32 = 13 := by decide +kernel
theorem ln31_39 : Cond.methodLink (mm_yn 31).cls 39 (mm_yn 32) ∈ mm_tb := mm_in 413 (by decide +kernel) rfl
theorem im32 : Cond.instanceMethod (mm_yn 32) ∈ mm_tb := mm_in 415 (by decide +kernel) rfl
theorem se32 : Cond.selects (mm_yn 32).cls (mm_yn 32) (mm_yn 32) ∈ mm_tb := mm_ins 3 (by decide +kernel) rfl
theorem ln31_43 : Cond.methodLink (mm_yn 31).cls 43 (mm_yn 34) ∈ mm_tb := mm_in 422 (by decide +kernel) rfl
theorem im34 : Cond.instanceMethod (mm_yn 34) ∈ mm_tb := mm_in 423 (by decide +kernel) rfl
theorem se34 : Cond.selects (mm_yn 34).cls (mm_yn 34) (mm_yn 34) ∈ mm_tb := mm_in 424 (by decide +kernel) rfl
theorem fk31_11 : mm_okf 31 11 3 1 := ⟨_, _, _, rfl, by decide +kernel, mm_in 70 (by decide +kernel) rfl⟩
theorem fk32_18 : mm_okf 32 18 3 0 := ⟨_, _, _, rfl, by decide +kernel, mm_in 69 (by decide +kernel) rfl⟩
theorem ln32_36 : Cond.methodLink (mm_yn 32).cls 36 (mm_yn 24) ∈ mm_tb := mm_in 412 (by decide +kernel) rfl
theorem ln32_46 : Cond.methodLink (mm_yn 32).cls 46 (mm_yn 26) ∈ mm_tb := mm_in 417 (by decide +kernel) rfl
theorem ln32_49 : Cond.methodLink (mm_yn 32).cls 49 (mm_yn 33) ∈ mm_tb := mm_in 418 (by decide +kernel) rfl
theorem im33 : Cond.instanceMethod (mm_yn 33) ∈ mm_tb := mm_in 419 (by decide +kernel) rfl
theorem se33 : Cond.selects (mm_yn 33).cls (mm_yn 33) (mm_yn 33) ∈ mm_tb := mm_in 420 (by decide +kernel) rfl
theorem ln32_43 : Cond.methodLink (mm_yn 32).cls 43 (mm_yn 34) ∈ mm_tb := mm_in 422 (by decide +kernel) rfl
theorem fk33_11 : mm_okf 33 11 3 1 := ⟨_, _, _, rfl, by decide +kernel, mm_in 70 (by decide +kernel) rfl⟩
theorem fk34_15 : mm_okf 34 15 3 2 := ⟨_, _, _, rfl, by decide +kernel, mm_in 71 (by decide +kernel) rfl⟩
theorem ln35_19 : Cond.methodLink (mm_yn 35).cls 19 (mm_yn 36) ∈ mm_tb := mm_in 429 (by decide +kernel) rfl
theorem im36 : Cond.instanceMethod (mm_yn 36) ∈ mm_tb := mm_in 430 (by decide +kernel) rfl
theorem se36 : Cond.selects (mm_yn 36).cls (mm_yn 36) (mm_yn 36) ∈ mm_tb := mm_in 431 (by decide +kernel) rfl
theorem ln36_81 : Cond.methodLink (mm_yn 36).cls 81 (mm_yn 17) ∈ mm_tb := mm_in 248 (by decide +kernel) rfl
theorem ln36_113 : Cond.methodLink (mm_yn 36).cls 113 (mm_yn 37) ∈ mm_tb := mm_in 433 (by decide +kernel) rfl
theorem st37 : Cond.static (mm_yn 37) ∈ mm_tb := mm_in 434 (by decide +kernel) rfl
theorem fk36_21 : mm_okf 36 21 0 1 := ⟨_, _, _, rfl, by decide +kernel, mm_in 184 (by decide +kernel) rfl⟩
theorem ln36_116 : Cond.methodLink (mm_yn 36).cls 116 (mm_yn 27) ∈ mm_tb := mm_in 437 (by decide +kernel) rfl
theorem ln38_23 : Cond.methodLink (mm_yn 38).cls 23 (mm_yn 39) ∈ mm_tb := mm_in 441 (by decide +kernel) rfl
theorem im39 : Cond.instanceMethod (mm_yn 39) ∈ mm_tb := mm_in 442 (by decide +kernel) rfl
theorem se39 : Cond.selects (mm_yn 39).cls (mm_yn 39) (mm_yn 39) ∈ mm_tb := mm_in 443 (by decide +kernel) rfl
theorem ln39_81 : Cond.methodLink (mm_yn 39).cls 81 (mm_yn 17) ∈ mm_tb := mm_in 248 (by decide +kernel) rfl
theorem ln39_113 : Cond.methodLink (mm_yn 39).cls 113 (mm_yn 37) ∈ mm_tb := mm_in 433 (by decide +kernel) rfl
theorem fk39_21 : mm_okf 39 21 0 1 := ⟨_, _, _, rfl, by decide +kernel, mm_in 184 (by decide +kernel) rfl⟩
theorem ln39_116 : Cond.methodLink (mm_yn 39).cls 116 (mm_yn 27) ∈ mm_tb := mm_in 437 (by decide +kernel) rfl
theorem ln39_120 : Cond.methodLink (mm_yn 39).cls 120 (mm_yn 40) ∈ mm_tb := mm_in 445 (by decide +kernel) rfl
theorem st40 : Cond.static (mm_yn 40) ∈ mm_tb := mm_in 446 (by decide +kernel) rfl
theorem fk39_44 : mm_okf 39 44 0 4 := ⟨_, _, _, rfl, by decide +kernel, mm_in 187 (by decide +kernel) rfl⟩
theorem ln39_124 : Cond.methodLink (mm_yn 39).cls 124 (mm_yn 41) ∈ mm_tb := mm_in 449 (by decide +kernel) rfl
theorem im41 : Cond.instanceMethod (mm_yn 41) ∈ mm_tb := mm_in 450 (by decide +kernel) rfl
theorem se41 : Cond.selects (mm_yn 41).cls (mm_yn 41) (mm_yn 41) ∈ mm_tb := mm_in 451 (by decide +kernel) rfl
theorem fk39_35 : mm_okf 39 35 0 3 := ⟨_, _, _, rfl, by decide +kernel, mm_in 186 (by decide +kernel) rfl⟩
theorem ln39_128 : Cond.methodLink (mm_yn 39).cls 128 (mm_yn 47) ∈ mm_tb := mm_in 477 (by decide +kernel) rfl
theorem im47 : Cond.instanceMethod (mm_yn 47) ∈ mm_tb := mm_in 478 (by decide +kernel) rfl
theorem se47 : Cond.selects (mm_yn 47).cls (mm_yn 47) (mm_yn 47) ∈ mm_tb := mm_in 479 (by decide +kernel) rfl
theorem ln39_132 : Cond.methodLink (mm_yn 39).cls 132 (mm_yn 51) ∈ mm_tb := mm_in 493 (by decide +kernel) rfl
theorem im51 : Cond.instanceMethod (mm_yn 51) ∈ mm_tb := mm_in 494 (by decide +kernel) rfl
theorem se51 : Cond.selects (mm_yn 51).cls (mm_yn 51) (mm_yn 51) ∈ mm_tb := mm_in 495 (by decide +kernel) rfl
theorem fk41_9 : mm_okf 41 9 5 2 := ⟨_, _, _, rfl, by decide +kernel, mm_in 100 (by decide +kernel) rfl⟩
theorem ln41_33 : Cond.methodLink (mm_yn 41).cls 33 (mm_yn 42) ∈ mm_tb := mm_in 453 (by decide +kernel) rfl
theorem im42 : Cond.instanceMethod (mm_yn 42) ∈ mm_tb := mm_in 455 (by decide +kernel) rfl
theorem se42 : Cond.selects (mm_yn 42).cls (mm_yn 42) (mm_yn 42) ∈ mm_tb := mm_ins 4 (by decide +kernel) rfl
theorem fk42_9 : mm_okf 42 9 5 2 := ⟨_, _, _, rfl, by decide +kernel, mm_in 100 (by decide +kernel) rfl⟩
theorem fk42_21 : mm_okf 42 21 5 0 := ⟨_, _, _, rfl, by decide +kernel, mm_in 98 (by decide +kernel) rfl⟩
theorem ln42_37 : Cond.methodLink (mm_yn 42).cls 37 (mm_yn 19) ∈ mm_tb := mm_in 457 (by decide +kernel) rfl
theorem fk42_25 : mm_okf 42 25 5 1 := ⟨_, _, _, rfl, by decide +kernel, mm_in 99 (by decide +kernel) rfl⟩
theorem ln42_43 : Cond.methodLink (mm_yn 42).cls 43 (mm_yn 21) ∈ mm_tb := mm_in 458 (by decide +kernel) rfl
theorem ln42_47 : Cond.methodLink (mm_yn 42).cls 47 (mm_yn 43) ∈ mm_tb := mm_in 459 (by decide +kernel) rfl
theorem im43 : Cond.instanceMethod (mm_yn 43) ∈ mm_tb := mm_in 460 (by decide +kernel) rfl
theorem se43 : Cond.selects (mm_yn 43).cls (mm_yn 43) (mm_yn 43) ∈ mm_tb := mm_in 461 (by decide +kernel) rfl
theorem ln42_53 : Cond.methodLink (mm_yn 42).cls 53 (mm_yn 44) ∈ mm_tb := mm_in 463 (by decide +kernel) rfl
theorem im44 : Cond.instanceMethod (mm_yn 44) ∈ mm_tb := mm_in 465 (by decide +kernel) rfl
theorem se44 : Cond.selects (mm_yn 44).cls (mm_yn 44) (mm_yn 44) ∈ mm_tb := mm_ins 5 (by decide +kernel) rfl
theorem fk42_18 : mm_okf 42 18 5 4 := ⟨_, _, _, rfl, by decide +kernel, mm_in 102 (by decide +kernel) rfl⟩
theorem ln42_57 : Cond.methodLink (mm_yn 42).cls 57 (mm_yn 25) ∈ mm_tb := mm_in 476 (by decide +kernel) rfl
theorem ln42_61 : Cond.methodLink (mm_yn 42).cls 61 (mm_yn 45) ∈ mm_tb := mm_in 468 (by decide +kernel) rfl
theorem st45 : Cond.static (mm_yn 45) ∈ mm_tb := mm_in 469 (by decide +kernel) rfl
theorem ln42_33 : Cond.methodLink (mm_yn 42).cls 33 (mm_yn 42) ∈ mm_tb := mm_in 453 (by decide +kernel) rfl
theorem fk43_15 : mm_okf 43 15 2 2 := ⟨_, _, _, rfl, by decide +kernel, mm_in 54 (by decide +kernel) rfl⟩
theorem fk44_9 : mm_okf 44 9 5 2 := ⟨_, _, _, rfl, by decide +kernel, mm_in 100 (by decide +kernel) rfl⟩
theorem ln44_43 : Cond.methodLink (mm_yn 44).cls 43 (mm_yn 21) ∈ mm_tb := mm_in 458 (by decide +kernel) rfl
theorem fk44_15 : mm_okf 44 15 5 3 := ⟨_, _, _, rfl, by decide +kernel, mm_in 101 (by decide +kernel) rfl⟩
theorem fk44_18 : mm_okf 44 18 5 4 := ⟨_, _, _, rfl, by decide +kernel, mm_in 102 (by decide +kernel) rfl⟩
theorem fk44_21 : mm_okf 44 21 5 0 := ⟨_, _, _, rfl, by decide +kernel, mm_in 98 (by decide +kernel) rfl⟩
theorem ln44_66 : Cond.methodLink (mm_yn 44).cls 66 (mm_yn 24) ∈ mm_tb := mm_in 467 (by decide +kernel) rfl
theorem ln44_61 : Cond.methodLink (mm_yn 44).cls 61 (mm_yn 45) ∈ mm_tb := mm_in 468 (by decide +kernel) rfl
theorem ln44_69 : Cond.methodLink (mm_yn 44).cls 69 (mm_yn 26) ∈ mm_tb := mm_in 471 (by decide +kernel) rfl
theorem ln44_29 : Cond.methodLink (mm_yn 44).cls 29 (mm_yn 46) ∈ mm_tb := mm_in 472 (by decide +kernel) rfl
theorem im46 : Cond.instanceMethod (mm_yn 46) ∈ mm_tb := mm_in 474 (by decide +kernel) rfl
theorem se46 : Cond.selects (mm_yn 46).cls (mm_yn 46) (mm_yn 46) ∈ mm_tb := mm_ins 6 (by decide +kernel) rfl
theorem fk46_15 : mm_okf 46 15 5 3 := ⟨_, _, _, rfl, by decide +kernel, mm_in 101 (by decide +kernel) rfl⟩
theorem cbm2 : (Int8.ofInt (-2)).toInt32 = (-2) := by decide +kernel
theorem fk46_18 : mm_okf 46 18 5 4 := ⟨_, _, _, rfl, by decide +kernel, mm_in 102 (by decide +kernel) rfl⟩
theorem ln47_85 : Cond.methodLink (mm_yn 47).cls 85 (mm_yn 48) ∈ mm_tb := mm_in 481 (by decide +kernel) rfl
theorem im48 : Cond.instanceMethod (mm_yn 48) ∈ mm_tb := mm_in 482 (by decide +kernel) rfl
theorem se48 : Cond.selects (mm_yn 48).cls (mm_yn 48) (mm_yn 48) ∈ mm_tb := mm_in 483 (by decide +kernel) rfl
theorem ln47_90 : Cond.methodLink (mm_yn 47).cls 90 (mm_yn 49) ∈ mm_tb := mm_in 485 (by decide +kernel) rfl
theorem im49 : Cond.instanceMethod (mm_yn 49) ∈ mm_tb := mm_in 487 (by decide +kernel) rfl
theorem se49 : Cond.selects (mm_yn 49).cls (mm_yn 49) (mm_yn 49) ∈ mm_tb := mm_ins 7 (by decide +kernel) rfl
theorem fk48_15 : mm_okf 48 15 4 1 := ⟨_, _, _, rfl, by decide +kernel, mm_in 86 (by decide +kernel) rfl⟩
theorem fp48_15 : mm_okp 48 4 1 := fun C T N h => by
  cases h
  exact Or.inl rfl
theorem fk49_15 : mm_okf 49 15 5 3 := ⟨_, _, _, rfl, by decide +kernel, mm_in 101 (by decide +kernel) rfl⟩
theorem ln49_94 : Cond.methodLink (mm_yn 49).cls 94 (mm_yn 50) ∈ mm_tb := mm_in 489 (by decide +kernel) rfl
theorem im50 : Cond.instanceMethod (mm_yn 50) ∈ mm_tb := mm_in 490 (by decide +kernel) rfl
theorem se50 : Cond.selects (mm_yn 50).cls (mm_yn 50) (mm_yn 50) ∈ mm_tb := mm_in 491 (by decide +kernel) rfl
theorem fk49_18 : mm_okf 49 18 5 4 := ⟨_, _, _, rfl, by decide +kernel, mm_in 102 (by decide +kernel) rfl⟩
theorem ln49_61 : Cond.methodLink (mm_yn 49).cls 61 (mm_yn 45) ∈ mm_tb := mm_in 468 (by decide +kernel) rfl
theorem ln49_90 : Cond.methodLink (mm_yn 49).cls 90 (mm_yn 49) ∈ mm_tb := mm_in 485 (by decide +kernel) rfl
theorem fk50_15 : mm_okf 50 15 4 1 := ⟨_, _, _, rfl, by decide +kernel, mm_in 86 (by decide +kernel) rfl⟩
theorem fk50_9 : mm_okf 50 9 4 0 := ⟨_, _, _, rfl, by decide +kernel, mm_in 85 (by decide +kernel) rfl⟩
theorem fp50_15 : mm_okp 50 4 1 := fun C T N h => by
  cases h
  exact Or.inl rfl
theorem fk51_15 : mm_okf 51 15 4 1 := ⟨_, _, _, rfl, by decide +kernel, mm_in 86 (by decide +kernel) rfl⟩
theorem ln52_27 : Cond.methodLink (mm_yn 52).cls 27 (mm_yn 53) ∈ mm_tb := mm_in 500 (by decide +kernel) rfl
theorem im53 : Cond.instanceMethod (mm_yn 53) ∈ mm_tb := mm_in 501 (by decide +kernel) rfl
theorem se53 : Cond.selects (mm_yn 53).cls (mm_yn 53) (mm_yn 53) ∈ mm_tb := mm_in 502 (by decide +kernel) rfl
theorem ln53_81 : Cond.methodLink (mm_yn 53).cls 81 (mm_yn 17) ∈ mm_tb := mm_in 248 (by decide +kernel) rfl
theorem ln53_136 : Cond.methodLink (mm_yn 53).cls 136 (mm_yn 54) ∈ mm_tb := mm_in 504 (by decide +kernel) rfl
theorem st54 : Cond.static (mm_yn 54) ∈ mm_tb := mm_in 505 (by decide +kernel) rfl
theorem fk53_28 : mm_okf 53 28 0 2 := ⟨_, _, _, rfl, by decide +kernel, mm_in 185 (by decide +kernel) rfl⟩
theorem ln53_139 : Cond.methodLink (mm_yn 53).cls 139 (mm_yn 33) ∈ mm_tb := mm_in 508 (by decide +kernel) rfl
theorem ln55_30 : Cond.methodLink (mm_yn 55).cls 30 (mm_yn 56) ∈ mm_tb := mm_in 512 (by decide +kernel) rfl
theorem im56 : Cond.instanceMethod (mm_yn 56) ∈ mm_tb := mm_in 513 (by decide +kernel) rfl
theorem se56 : Cond.selects (mm_yn 56).cls (mm_yn 56) (mm_yn 56) ∈ mm_tb := mm_in 514 (by decide +kernel) rfl
theorem ln56_81 : Cond.methodLink (mm_yn 56).cls 81 (mm_yn 17) ∈ mm_tb := mm_in 248 (by decide +kernel) rfl
theorem ln56_136 : Cond.methodLink (mm_yn 56).cls 136 (mm_yn 54) ∈ mm_tb := mm_in 504 (by decide +kernel) rfl
theorem fk56_28 : mm_okf 56 28 0 2 := ⟨_, _, _, rfl, by decide +kernel, mm_in 185 (by decide +kernel) rfl⟩
theorem ln56_139 : Cond.methodLink (mm_yn 56).cls 139 (mm_yn 33) ∈ mm_tb := mm_in 508 (by decide +kernel) rfl
theorem ln56_120 : Cond.methodLink (mm_yn 56).cls 120 (mm_yn 40) ∈ mm_tb := mm_in 445 (by decide +kernel) rfl
theorem fk56_53 : mm_okf 56 53 0 5 := ⟨_, _, _, rfl, by decide +kernel, mm_in 188 (by decide +kernel) rfl⟩
theorem ln56_140 : Cond.methodLink (mm_yn 56).cls 140 (mm_yn 57) ∈ mm_tb := mm_in 516 (by decide +kernel) rfl
theorem im57 : Cond.instanceMethod (mm_yn 57) ∈ mm_tb := mm_in 517 (by decide +kernel) rfl
theorem se57 : Cond.selects (mm_yn 57).cls (mm_yn 57) (mm_yn 57) ∈ mm_tb := mm_in 518 (by decide +kernel) rfl
theorem fk56_35 : mm_okf 56 35 0 3 := ⟨_, _, _, rfl, by decide +kernel, mm_in 186 (by decide +kernel) rfl⟩
theorem ln56_132 : Cond.methodLink (mm_yn 56).cls 132 (mm_yn 51) ∈ mm_tb := mm_in 493 (by decide +kernel) rfl
theorem fk57_23 : mm_okf 57 23 6 2 := ⟨_, _, _, rfl, by decide +kernel, mm_in 122 (by decide +kernel) rfl⟩
theorem ln57_27 : Cond.methodLink (mm_yn 57).cls 27 (mm_yn 48) ∈ mm_tb := mm_in 520 (by decide +kernel) rfl
theorem ln57_32 : Cond.methodLink (mm_yn 57).cls 32 (mm_yn 58) ∈ mm_tb := mm_in 521 (by decide +kernel) rfl
theorem im58 : Cond.instanceMethod (mm_yn 58) ∈ mm_tb := mm_in 523 (by decide +kernel) rfl
theorem se58 : Cond.selects (mm_yn 58).cls (mm_yn 58) (mm_yn 58) ∈ mm_tb := mm_ins 8 (by decide +kernel) rfl
theorem fk58_15 : mm_okf 58 15 6 0 := ⟨_, _, _, rfl, by decide +kernel, mm_in 120 (by decide +kernel) rfl⟩
theorem ln58_36 : Cond.methodLink (mm_yn 58).cls 36 (mm_yn 19) ∈ mm_tb := mm_in 525 (by decide +kernel) rfl
theorem fk58_19 : mm_okf 58 19 6 1 := ⟨_, _, _, rfl, by decide +kernel, mm_in 121 (by decide +kernel) rfl⟩
theorem ln58_42 : Cond.methodLink (mm_yn 58).cls 42 (mm_yn 21) ∈ mm_tb := mm_in 526 (by decide +kernel) rfl
theorem ln58_46 : Cond.methodLink (mm_yn 58).cls 46 (mm_yn 34) ∈ mm_tb := mm_in 527 (by decide +kernel) rfl
theorem fk58_23 : mm_okf 58 23 6 2 := ⟨_, _, _, rfl, by decide +kernel, mm_in 122 (by decide +kernel) rfl⟩
theorem ln58_52 : Cond.methodLink (mm_yn 58).cls 52 (mm_yn 50) ∈ mm_tb := mm_in 528 (by decide +kernel) rfl
theorem ln58_56 : Cond.methodLink (mm_yn 58).cls 56 (mm_yn 59) ∈ mm_tb := mm_in 529 (by decide +kernel) rfl
theorem im59 : Cond.instanceMethod (mm_yn 59) ∈ mm_tb := mm_in 531 (by decide +kernel) rfl
theorem se59 : Cond.selects (mm_yn 59).cls (mm_yn 59) (mm_yn 59) ∈ mm_tb := mm_ins 9 (by decide +kernel) rfl
theorem ln59_59 : Cond.methodLink (mm_yn 59).cls 59 (mm_yn 60) ∈ mm_tb := mm_in 533 (by decide +kernel) rfl
theorem im60 : Cond.instanceMethod (mm_yn 60) ∈ mm_tb := mm_in 535 (by decide +kernel) rfl
theorem se60 : Cond.selects (mm_yn 60).cls (mm_yn 60) (mm_yn 60) ∈ mm_tb := mm_ins 10 (by decide +kernel) rfl
theorem fk59_15 : mm_okf 59 15 6 0 := ⟨_, _, _, rfl, by decide +kernel, mm_in 120 (by decide +kernel) rfl⟩
theorem ln59_63 : Cond.methodLink (mm_yn 59).cls 63 (mm_yn 24) ∈ mm_tb := mm_in 537 (by decide +kernel) rfl
theorem ln59_66 : Cond.methodLink (mm_yn 59).cls 66 (mm_yn 62) ∈ mm_tb := mm_in 544 (by decide +kernel) rfl
theorem im62 : Cond.instanceMethod (mm_yn 62) ∈ mm_tb := mm_in 546 (by decide +kernel) rfl
theorem se62 : Cond.selects (mm_yn 62).cls (mm_yn 62) (mm_yn 62) ∈ mm_tb := mm_ins 12 (by decide +kernel) rfl
theorem ln59_69 : Cond.methodLink (mm_yn 59).cls 69 (mm_yn 26) ∈ mm_tb := mm_in 538 (by decide +kernel) rfl
theorem fk59_9 : mm_okf 59 9 6 3 := ⟨_, _, _, rfl, by decide +kernel, mm_in 123 (by decide +kernel) rfl⟩
theorem ln59_32 : Cond.methodLink (mm_yn 59).cls 32 (mm_yn 58) ∈ mm_tb := mm_in 521 (by decide +kernel) rfl
theorem fk60_15 : mm_okf 60 15 6 0 := ⟨_, _, _, rfl, by decide +kernel, mm_in 120 (by decide +kernel) rfl⟩
theorem ln60_63 : Cond.methodLink (mm_yn 60).cls 63 (mm_yn 24) ∈ mm_tb := mm_in 537 (by decide +kernel) rfl
theorem ln60_69 : Cond.methodLink (mm_yn 60).cls 69 (mm_yn 26) ∈ mm_tb := mm_in 538 (by decide +kernel) rfl
theorem ln60_72 : Cond.methodLink (mm_yn 60).cls 72 (mm_yn 61) ∈ mm_tb := mm_in 539 (by decide +kernel) rfl
theorem im61 : Cond.instanceMethod (mm_yn 61) ∈ mm_tb := mm_in 541 (by decide +kernel) rfl
theorem se61 : Cond.selects (mm_yn 61).cls (mm_yn 61) (mm_yn 61) ∈ mm_tb := mm_ins 11 (by decide +kernel) rfl
theorem fk60_9 : mm_okf 60 9 6 3 := ⟨_, _, _, rfl, by decide +kernel, mm_in 123 (by decide +kernel) rfl⟩
theorem fk60_19 : mm_okf 60 19 6 1 := ⟨_, _, _, rfl, by decide +kernel, mm_in 121 (by decide +kernel) rfl⟩
theorem ln60_76 : Cond.methodLink (mm_yn 60).cls 76 (mm_yn 33) ∈ mm_tb := mm_in 543 (by decide +kernel) rfl
theorem fk61_19 : mm_okf 61 19 6 1 := ⟨_, _, _, rfl, by decide +kernel, mm_in 121 (by decide +kernel) rfl⟩
theorem fk61_15 : mm_okf 61 15 6 0 := ⟨_, _, _, rfl, by decide +kernel, mm_in 120 (by decide +kernel) rfl⟩
theorem ln61_69 : Cond.methodLink (mm_yn 61).cls 69 (mm_yn 26) ∈ mm_tb := mm_in 538 (by decide +kernel) rfl
theorem ln61_76 : Cond.methodLink (mm_yn 61).cls 76 (mm_yn 33) ∈ mm_tb := mm_in 543 (by decide +kernel) rfl
theorem ln61_46 : Cond.methodLink (mm_yn 61).cls 46 (mm_yn 34) ∈ mm_tb := mm_in 527 (by decide +kernel) rfl
theorem fk62_15 : mm_okf 62 15 6 0 := ⟨_, _, _, rfl, by decide +kernel, mm_in 120 (by decide +kernel) rfl⟩
theorem ln62_63 : Cond.methodLink (mm_yn 62).cls 63 (mm_yn 24) ∈ mm_tb := mm_in 537 (by decide +kernel) rfl
theorem fk62_19 : mm_okf 62 19 6 1 := ⟨_, _, _, rfl, by decide +kernel, mm_in 121 (by decide +kernel) rfl⟩
theorem ln62_69 : Cond.methodLink (mm_yn 62).cls 69 (mm_yn 26) ∈ mm_tb := mm_in 538 (by decide +kernel) rfl
theorem fk62_9 : mm_okf 62 9 6 3 := ⟨_, _, _, rfl, by decide +kernel, mm_in 123 (by decide +kernel) rfl⟩
theorem ln62_76 : Cond.methodLink (mm_yn 62).cls 76 (mm_yn 33) ∈ mm_tb := mm_in 543 (by decide +kernel) rfl
theorem ln63_33 : Cond.methodLink (mm_yn 63).cls 33 (mm_yn 64) ∈ mm_tb := mm_in 551 (by decide +kernel) rfl
theorem im64 : Cond.instanceMethod (mm_yn 64) ∈ mm_tb := mm_in 552 (by decide +kernel) rfl
theorem se64 : Cond.selects (mm_yn 64).cls (mm_yn 64) (mm_yn 64) ∈ mm_tb := mm_in 553 (by decide +kernel) rfl
theorem ln64_146 : Cond.methodLink (mm_yn 64).cls 146 (mm_yn 65) ∈ mm_tb := mm_in 555 (by decide +kernel) rfl
theorem st65 : Cond.static (mm_yn 65) ∈ mm_tb := mm_in 556 (by decide +kernel) rfl
theorem ln64_151 : Cond.methodLink (mm_yn 64).cls 151 (mm_yn 67) ∈ mm_tb := mm_in 563 (by decide +kernel) rfl
theorem im67 : Cond.instanceMethod (mm_yn 67) ∈ mm_tb := mm_in 565 (by decide +kernel) rfl
theorem se67 : Cond.selects (mm_yn 67).cls (mm_yn 67) (mm_yn 67) ∈ mm_tb := mm_ins 13 (by decide +kernel) rfl
theorem fk64_60 : mm_okf 64 60 0 6 := ⟨_, _, _, rfl, by decide +kernel, mm_in 189 (by decide +kernel) rfl⟩
theorem ln64_154 : Cond.methodLink (mm_yn 64).cls 154 (mm_yn 69) ∈ mm_tb := mm_in 572 (by decide +kernel) rfl
theorem im69 : Cond.instanceMethod (mm_yn 69) ∈ mm_tb := mm_in 573 (by decide +kernel) rfl
theorem se69 : Cond.selects (mm_yn 69).cls (mm_yn 69) (mm_yn 69) ∈ mm_tb := mm_in 574 (by decide +kernel) rfl
theorem ln65_223 : Cond.methodLink (mm_yn 65).cls 223 (mm_yn 66) ∈ mm_tb := mm_in 558 (by decide +kernel) rfl
theorem st66 : Cond.static (mm_yn 66) ∈ mm_tb := mm_in 559 (by decide +kernel) rfl
theorem fk67_60 : mm_okf 67 60 0 6 := ⟨_, _, _, rfl, by decide +kernel, mm_in 189 (by decide +kernel) rfl⟩
theorem ln67_231 : Cond.methodLink (mm_yn 67).cls 231 (mm_yn 68) ∈ mm_tb := mm_in 567 (by decide +kernel) rfl
theorem im68 : Cond.instanceMethod (mm_yn 68) ∈ mm_tb := mm_in 568 (by decide +kernel) rfl
theorem se68 : Cond.selects (mm_yn 68).cls (mm_yn 68) (mm_yn 68) ∈ mm_tb := mm_in 569 (by decide +kernel) rfl
theorem fk68_24 : mm_okf 68 24 7 4 := ⟨_, _, _, rfl, by decide +kernel, mm_in 143 (by decide +kernel) rfl⟩
theorem fk69_9 : mm_okf 69 9 7 0 := ⟨_, _, _, rfl, by decide +kernel, mm_in 139 (by decide +kernel) rfl⟩
theorem fk69_24 : mm_okf 69 24 7 4 := ⟨_, _, _, rfl, by decide +kernel, mm_in 143 (by decide +kernel) rfl⟩
theorem fk69_15 : mm_okf 69 15 7 1 := ⟨_, _, _, rfl, by decide +kernel, mm_in 140 (by decide +kernel) rfl⟩
theorem fk69_18 : mm_okf 69 18 7 2 := ⟨_, _, _, rfl, by decide +kernel, mm_in 141 (by decide +kernel) rfl⟩
theorem fk69_21 : mm_okf 69 21 7 3 := ⟨_, _, _, rfl, by decide +kernel, mm_in 142 (by decide +kernel) rfl⟩
theorem fk69_28 : mm_okf 69 28 7 5 := ⟨_, _, _, rfl, by decide +kernel, mm_in 144 (by decide +kernel) rfl⟩
theorem fp69_24 : mm_okp 69 7 4 := fun C T N h => by
  cases h
  exact Or.inl rfl
theorem fp69_28 : mm_okp 69 7 5 := fun C T N h => by
  cases h
  exact Or.inl rfl
theorem ln70_37 : Cond.methodLink (mm_yn 70).cls 37 (mm_yn 71) ∈ mm_tb := mm_in 579 (by decide +kernel) rfl
theorem im71 : Cond.instanceMethod (mm_yn 71) ∈ mm_tb := mm_in 580 (by decide +kernel) rfl
theorem se71 : Cond.selects (mm_yn 71).cls (mm_yn 71) (mm_yn 71) ∈ mm_tb := mm_in 581 (by decide +kernel) rfl
theorem ln71_146 : Cond.methodLink (mm_yn 71).cls 146 (mm_yn 65) ∈ mm_tb := mm_in 555 (by decide +kernel) rfl
theorem ln71_151 : Cond.methodLink (mm_yn 71).cls 151 (mm_yn 67) ∈ mm_tb := mm_in 563 (by decide +kernel) rfl
theorem fk71_60 : mm_okf 71 60 0 6 := ⟨_, _, _, rfl, by decide +kernel, mm_in 189 (by decide +kernel) rfl⟩
theorem ln71_154 : Cond.methodLink (mm_yn 71).cls 154 (mm_yn 69) ∈ mm_tb := mm_in 572 (by decide +kernel) rfl
theorem ln72_40 : Cond.methodLink (mm_yn 72).cls 40 (mm_yn 73) ∈ mm_tb := mm_in 586 (by decide +kernel) rfl
theorem im73 : Cond.instanceMethod (mm_yn 73) ∈ mm_tb := mm_in 587 (by decide +kernel) rfl
theorem se73 : Cond.selects (mm_yn 73).cls (mm_yn 73) (mm_yn 73) ∈ mm_tb := mm_in 588 (by decide +kernel) rfl
theorem fk73_60 : mm_okf 73 60 0 6 := ⟨_, _, _, rfl, by decide +kernel, mm_in 189 (by decide +kernel) rfl⟩
theorem ln73_160 : Cond.methodLink (mm_yn 73).cls 160 (mm_yn 74) ∈ mm_tb := mm_in 591 (by decide +kernel) rfl
theorem im74 : Cond.instanceMethod (mm_yn 74) ∈ mm_tb := mm_in 592 (by decide +kernel) rfl
theorem se74 : Cond.selects (mm_yn 74).cls (mm_yn 74) (mm_yn 74) ∈ mm_tb := mm_in 593 (by decide +kernel) rfl
theorem ln73_163 : Cond.methodLink (mm_yn 73).cls 163 (mm_yn 75) ∈ mm_tb := mm_in 595 (by decide +kernel) rfl
theorem st75 : Cond.static (mm_yn 75) ∈ mm_tb := mm_in 596 (by decide +kernel) rfl
theorem ln73_151 : Cond.methodLink (mm_yn 73).cls 151 (mm_yn 67) ∈ mm_tb := mm_in 563 (by decide +kernel) rfl
theorem ln73_168 : Cond.methodLink (mm_yn 73).cls 168 (mm_yn 76) ∈ mm_tb := mm_in 599 (by decide +kernel) rfl
theorem im76 : Cond.instanceMethod (mm_yn 76) ∈ mm_tb := mm_in 600 (by decide +kernel) rfl
theorem se76 : Cond.selects (mm_yn 76).cls (mm_yn 76) (mm_yn 76) ∈ mm_tb := mm_in 601 (by decide +kernel) rfl
theorem fk74_28 : mm_okf 74 28 7 5 := ⟨_, _, _, rfl, by decide +kernel, mm_in 144 (by decide +kernel) rfl⟩
theorem fk76_21 : mm_okf 76 21 7 3 := ⟨_, _, _, rfl, by decide +kernel, mm_in 142 (by decide +kernel) rfl⟩
theorem fk76_28 : mm_okf 76 28 7 5 := ⟨_, _, _, rfl, by decide +kernel, mm_in 144 (by decide +kernel) rfl⟩
theorem ln76_31 : Cond.methodLink (mm_yn 76).cls 31 (mm_yn 75) ∈ mm_tb := mm_in 603 (by decide +kernel) rfl
theorem fp76_28 : mm_okp 76 7 5 := fun C T N h => by
  cases h
  exact Or.inl rfl
theorem ln76_35 : Cond.methodLink (mm_yn 76).cls 35 (mm_yn 69) ∈ mm_tb := mm_in 604 (by decide +kernel) rfl
theorem ln77_44 : Cond.methodLink (mm_yn 77).cls 44 (mm_yn 78) ∈ mm_tb := mm_in 608 (by decide +kernel) rfl
theorem im78 : Cond.instanceMethod (mm_yn 78) ∈ mm_tb := mm_in 609 (by decide +kernel) rfl
theorem se78 : Cond.selects (mm_yn 78).cls (mm_yn 78) (mm_yn 78) ∈ mm_tb := mm_in 610 (by decide +kernel) rfl
theorem ln78_81 : Cond.methodLink (mm_yn 78).cls 81 (mm_yn 17) ∈ mm_tb := mm_in 248 (by decide +kernel) rfl
theorem ln78_113 : Cond.methodLink (mm_yn 78).cls 113 (mm_yn 37) ∈ mm_tb := mm_in 433 (by decide +kernel) rfl
theorem ln78_174 : Cond.methodLink (mm_yn 78).cls 174 (mm_yn 79) ∈ mm_tb := mm_in 612 (by decide +kernel) rfl
theorem im79 : Cond.instanceMethod (mm_yn 79) ∈ mm_tb := mm_in 614 (by decide +kernel) rfl
theorem se79 : Cond.selects (mm_yn 79).cls (mm_yn 79) (mm_yn 79) ∈ mm_tb := mm_ins 14 (by decide +kernel) rfl
theorem fk78_21 : mm_okf 78 21 0 1 := ⟨_, _, _, rfl, by decide +kernel, mm_in 184 (by decide +kernel) rfl⟩
theorem ln78_116 : Cond.methodLink (mm_yn 78).cls 116 (mm_yn 27) ∈ mm_tb := mm_in 437 (by decide +kernel) rfl
theorem kl78_177 : Cond.constantLong (mm_yn 78).cls 177 1000 ∈ mm_tb := mm_in 617 (by decide +kernel) rfl
theorem ln78_181 : Cond.methodLink (mm_yn 78).cls 181 (mm_yn 80) ∈ mm_tb := mm_in 619 (by decide +kernel) rfl
theorem im80 : Cond.instanceMethod (mm_yn 80) ∈ mm_tb := mm_in 621 (by decide +kernel) rfl
theorem se80 : Cond.selects (mm_yn 80).cls (mm_yn 80) (mm_yn 80) ∈ mm_tb := mm_ins 15 (by decide +kernel) rfl
theorem fk78_73 : mm_okf 78 73 0 8 := ⟨_, _, _, rfl, by decide +kernel, mm_in 191 (by decide +kernel) rfl⟩
theorem fp78_73 : mm_okp 78 0 8 := fun C T N h => by
  cases h
  exact Or.inl rfl
theorem fk78_77 : mm_okf 78 77 0 9 := ⟨_, _, _, rfl, by decide +kernel, mm_in 192 (by decide +kernel) rfl⟩
theorem fp78_77 : mm_okp 78 0 9 := fun C T N h => by
  cases h
  exact Or.inl rfl
theorem fk78_44 : mm_okf 78 44 0 4 := ⟨_, _, _, rfl, by decide +kernel, mm_in 187 (by decide +kernel) rfl⟩
theorem fk78_35 : mm_okf 78 35 0 3 := ⟨_, _, _, rfl, by decide +kernel, mm_in 186 (by decide +kernel) rfl⟩
theorem ln78_128 : Cond.methodLink (mm_yn 78).cls 128 (mm_yn 47) ∈ mm_tb := mm_in 477 (by decide +kernel) rfl
theorem fk79_60 : mm_okf 79 60 0 6 := ⟨_, _, _, rfl, by decide +kernel, mm_in 189 (by decide +kernel) rfl⟩
theorem ln79_160 : Cond.methodLink (mm_yn 79).cls 160 (mm_yn 74) ∈ mm_tb := mm_in 591 (by decide +kernel) rfl
theorem fk80_44 : mm_okf 80 44 0 4 := ⟨_, _, _, rfl, by decide +kernel, mm_in 187 (by decide +kernel) rfl⟩
theorem ln80_124 : Cond.methodLink (mm_yn 80).cls 124 (mm_yn 41) ∈ mm_tb := mm_in 449 (by decide +kernel) rfl
theorem fk80_60 : mm_okf 80 60 0 6 := ⟨_, _, _, rfl, by decide +kernel, mm_in 189 (by decide +kernel) rfl⟩
theorem ln80_206 : Cond.methodLink (mm_yn 80).cls 206 (mm_yn 81) ∈ mm_tb := mm_in 623 (by decide +kernel) rfl
theorem im81 : Cond.instanceMethod (mm_yn 81) ∈ mm_tb := mm_in 624 (by decide +kernel) rfl
theorem se81 : Cond.selects (mm_yn 81).cls (mm_yn 81) (mm_yn 81) ∈ mm_tb := mm_in 625 (by decide +kernel) rfl
theorem fk81_21 : mm_okf 81 21 7 3 := ⟨_, _, _, rfl, by decide +kernel, mm_in 142 (by decide +kernel) rfl⟩
theorem fk81_28 : mm_okf 81 28 7 5 := ⟨_, _, _, rfl, by decide +kernel, mm_in 144 (by decide +kernel) rfl⟩
theorem ln81_39 : Cond.methodLink (mm_yn 81).cls 39 (mm_yn 82) ∈ mm_tb := mm_in 627 (by decide +kernel) rfl
theorem im82 : Cond.instanceMethod (mm_yn 82) ∈ mm_tb := mm_in 629 (by decide +kernel) rfl
theorem se82 : Cond.selects (mm_yn 82).cls (mm_yn 82) (mm_yn 82) ∈ mm_tb := mm_ins 16 (by decide +kernel) rfl
theorem fk82_15 : mm_okf 82 15 7 1 := ⟨_, _, _, rfl, by decide +kernel, mm_in 140 (by decide +kernel) rfl⟩
theorem fk82_18 : mm_okf 82 18 7 2 := ⟨_, _, _, rfl, by decide +kernel, mm_in 141 (by decide +kernel) rfl⟩
theorem fk82_9 : mm_okf 82 9 7 0 := ⟨_, _, _, rfl, by decide +kernel, mm_in 139 (by decide +kernel) rfl⟩
theorem ln82_43 : Cond.methodLink (mm_yn 82).cls 43 (mm_yn 83) ∈ mm_tb := mm_in 631 (by decide +kernel) rfl
theorem im83 : Cond.instanceMethod (mm_yn 83) ∈ mm_tb := mm_in 632 (by decide +kernel) rfl
theorem se83 : Cond.selects (mm_yn 83).cls (mm_yn 83) (mm_yn 83) ∈ mm_tb := mm_in 633 (by decide +kernel) rfl
theorem ln82_49 : Cond.methodLink (mm_yn 82).cls 49 (mm_yn 86) ∈ mm_tb := mm_in 642 (by decide +kernel) rfl
theorem im86 : Cond.instanceMethod (mm_yn 86) ∈ mm_tb := mm_in 643 (by decide +kernel) rfl
theorem se86 : Cond.selects (mm_yn 86).cls (mm_yn 86) (mm_yn 86) ∈ mm_tb := mm_in 644 (by decide +kernel) rfl
theorem ln82_39 : Cond.methodLink (mm_yn 82).cls 39 (mm_yn 82) ∈ mm_tb := mm_in 627 (by decide +kernel) rfl
theorem ln82_52 : Cond.methodLink (mm_yn 82).cls 52 (mm_yn 88) ∈ mm_tb := mm_in 650 (by decide +kernel) rfl
theorem st88 : Cond.static (mm_yn 88) ∈ mm_tb := mm_in 651 (by decide +kernel) rfl
theorem ln83_97 : Cond.methodLink (mm_yn 83).cls 97 (mm_yn 84) ∈ mm_tb := mm_in 635 (by decide +kernel) rfl
theorem im84 : Cond.instanceMethod (mm_yn 84) ∈ mm_tb := mm_in 637 (by decide +kernel) rfl
theorem se84 : Cond.selects (mm_yn 84).cls (mm_yn 84) (mm_yn 84) ∈ mm_tb := mm_ins 17 (by decide +kernel) rfl
theorem fk83_15 : mm_okf 83 15 5 3 := ⟨_, _, _, rfl, by decide +kernel, mm_in 101 (by decide +kernel) rfl⟩
theorem ln84_72 : Cond.methodLink (mm_yn 84).cls 72 (mm_yn 85) ∈ mm_tb := mm_in 639 (by decide +kernel) rfl
theorem st85 : Cond.static (mm_yn 85) ∈ mm_tb := mm_in 640 (by decide +kernel) rfl
theorem fk84_15 : mm_okf 84 15 5 3 := ⟨_, _, _, rfl, by decide +kernel, mm_in 101 (by decide +kernel) rfl⟩
theorem fk84_18 : mm_okf 84 18 5 4 := ⟨_, _, _, rfl, by decide +kernel, mm_in 102 (by decide +kernel) rfl⟩
theorem ln86_97 : Cond.methodLink (mm_yn 86).cls 97 (mm_yn 84) ∈ mm_tb := mm_in 635 (by decide +kernel) rfl
theorem ln86_100 : Cond.methodLink (mm_yn 86).cls 100 (mm_yn 87) ∈ mm_tb := mm_in 646 (by decide +kernel) rfl
theorem im87 : Cond.instanceMethod (mm_yn 87) ∈ mm_tb := mm_in 648 (by decide +kernel) rfl
theorem se87 : Cond.selects (mm_yn 87).cls (mm_yn 87) (mm_yn 87) ∈ mm_tb := mm_ins 18 (by decide +kernel) rfl
theorem fk87_15 : mm_okf 87 15 5 3 := ⟨_, _, _, rfl, by decide +kernel, mm_in 101 (by decide +kernel) rfl⟩
theorem fk87_18 : mm_okf 87 18 5 4 := ⟨_, _, _, rfl, by decide +kernel, mm_in 102 (by decide +kernel) rfl⟩
theorem ln87_61 : Cond.methodLink (mm_yn 87).cls 61 (mm_yn 45) ∈ mm_tb := mm_in 468 (by decide +kernel) rfl
theorem ln87_100 : Cond.methodLink (mm_yn 87).cls 100 (mm_yn 87) ∈ mm_tb := mm_in 646 (by decide +kernel) rfl
theorem ln89_47 : Cond.methodLink (mm_yn 89).cls 47 (mm_yn 90) ∈ mm_tb := mm_in 656 (by decide +kernel) rfl
theorem im90 : Cond.instanceMethod (mm_yn 90) ∈ mm_tb := mm_in 657 (by decide +kernel) rfl
theorem se90 : Cond.selects (mm_yn 90).cls (mm_yn 90) (mm_yn 90) ∈ mm_tb := mm_in 658 (by decide +kernel) rfl
theorem ln90_81 : Cond.methodLink (mm_yn 90).cls 81 (mm_yn 17) ∈ mm_tb := mm_in 248 (by decide +kernel) rfl
theorem ln90_113 : Cond.methodLink (mm_yn 90).cls 113 (mm_yn 37) ∈ mm_tb := mm_in 433 (by decide +kernel) rfl
theorem ln90_174 : Cond.methodLink (mm_yn 90).cls 174 (mm_yn 79) ∈ mm_tb := mm_in 612 (by decide +kernel) rfl
theorem fk90_69 : mm_okf 90 69 0 7 := ⟨_, _, _, rfl, by decide +kernel, mm_in 190 (by decide +kernel) rfl⟩
theorem ln90_184 : Cond.methodLink (mm_yn 90).cls 184 (mm_yn 91) ∈ mm_tb := mm_in 660 (by decide +kernel) rfl
theorem im91 : Cond.instanceMethod (mm_yn 91) ∈ mm_tb := mm_in 661 (by decide +kernel) rfl
theorem se91 : Cond.selects (mm_yn 91).cls (mm_yn 91) (mm_yn 91) ∈ mm_tb := mm_in 662 (by decide +kernel) rfl
theorem ln90_188 : Cond.methodLink (mm_yn 90).cls 188 (mm_yn 97) ∈ mm_tb := mm_in 694 (by decide +kernel) rfl
theorem im97 : Cond.instanceMethod (mm_yn 97) ∈ mm_tb := mm_in 695 (by decide +kernel) rfl
theorem se97 : Cond.selects (mm_yn 97).cls (mm_yn 97) (mm_yn 97) ∈ mm_tb := mm_in 696 (by decide +kernel) rfl
theorem fk90_73 : mm_okf 90 73 0 8 := ⟨_, _, _, rfl, by decide +kernel, mm_in 191 (by decide +kernel) rfl⟩
theorem fp90_73 : mm_okp 90 0 8 := fun C T N h => by
  cases h
  exact Or.inl rfl
theorem ln90_191 : Cond.methodLink (mm_yn 90).cls 191 (mm_yn 98) ∈ mm_tb := mm_in 698 (by decide +kernel) rfl
theorem im98 : Cond.instanceMethod (mm_yn 98) ∈ mm_tb := mm_in 699 (by decide +kernel) rfl
theorem se98 : Cond.selects (mm_yn 98).cls (mm_yn 98) (mm_yn 98) ∈ mm_tb := mm_in 700 (by decide +kernel) rfl
theorem fk90_77 : mm_okf 90 77 0 9 := ⟨_, _, _, rfl, by decide +kernel, mm_in 192 (by decide +kernel) rfl⟩
theorem fp90_77 : mm_okp 90 0 9 := fun C T N h => by
  cases h
  exact Or.inl rfl
theorem gs90_195 : Cond.fieldLink (mm_yn 90).cls 195 mm_oc (mm_on 2) mm_od ∈ mm_tb := mm_in 702 (by decide +kernel) rfl
theorem gs90_203 : Cond.fieldLink (mm_yn 90).cls 203 mm_oc (mm_on 1) mm_od ∈ mm_tb := mm_in 704 (by decide +kernel) rfl
theorem fk90_44 : mm_okf 90 44 0 4 := ⟨_, _, _, rfl, by decide +kernel, mm_in 187 (by decide +kernel) rfl⟩
theorem fk90_35 : mm_okf 90 35 0 3 := ⟨_, _, _, rfl, by decide +kernel, mm_in 186 (by decide +kernel) rfl⟩
theorem ln90_128 : Cond.methodLink (mm_yn 90).cls 128 (mm_yn 47) ∈ mm_tb := mm_in 477 (by decide +kernel) rfl
theorem fk91_26 : mm_okf 91 26 8 0 := ⟨_, _, _, rfl, by decide +kernel, mm_in 164 (by decide +kernel) rfl⟩
theorem ln91_34 : Cond.methodLink (mm_yn 91).cls 34 (mm_yn 92) ∈ mm_tb := mm_in 664 (by decide +kernel) rfl
theorem im92 : Cond.instanceMethod (mm_yn 92) ∈ mm_tb := mm_in 665 (by decide +kernel) rfl
theorem se92 : Cond.selects (mm_yn 92).cls (mm_yn 92) (mm_yn 92) ∈ mm_tb := mm_in 666 (by decide +kernel) rfl
theorem fk91_15 : mm_okf 91 15 8 3 := ⟨_, _, _, rfl, by decide +kernel, mm_in 167 (by decide +kernel) rfl⟩
theorem fp91_15 : mm_okp 91 8 3 := fun C T N h => by
  cases h
  exact Or.inl rfl
theorem fk91_19 : mm_okf 91 19 8 4 := ⟨_, _, _, rfl, by decide +kernel, mm_in 168 (by decide +kernel) rfl⟩
theorem fp91_19 : mm_okp 91 8 4 := fun C T N h => by
  cases h
  exact Or.inl rfl
theorem fk91_22 : mm_okf 91 22 8 5 := ⟨_, _, _, rfl, by decide +kernel, mm_in 169 (by decide +kernel) rfl⟩
theorem fp91_22 : mm_okp 91 8 5 := fun C T N h => by
  cases h
  exact Or.inl rfl
theorem cs2000 : (Int16.ofInt 2000).toInt32 = 2000 := by decide +kernel
theorem fk91_30 : mm_okf 91 30 8 1 := ⟨_, _, _, rfl, by decide +kernel, mm_in 165 (by decide +kernel) rfl⟩
theorem ln91_40 : Cond.methodLink (mm_yn 91).cls 40 (mm_yn 81) ∈ mm_tb := mm_in 668 (by decide +kernel) rfl
theorem ln91_46 : Cond.methodLink (mm_yn 91).cls 46 (mm_yn 93) ∈ mm_tb := mm_in 669 (by decide +kernel) rfl
theorem im93 : Cond.instanceMethod (mm_yn 93) ∈ mm_tb := mm_in 670 (by decide +kernel) rfl
theorem se93 : Cond.selects (mm_yn 93).cls (mm_yn 93) (mm_yn 93) ∈ mm_tb := mm_in 671 (by decide +kernel) rfl
theorem ln91_50 : Cond.methodLinkNest (mm_yn 91).cls 50 (mm_yn 29) "LazyTester" ∈ mm_tb := mm_in 679 (by decide +kernel) rfl
theorem gs91_54 : Cond.fieldLink (mm_yn 91).cls 54 mm_oc (mm_on 1) mm_od ∈ mm_tb := mm_in 680 (by decide +kernel) rfl
theorem fk91_9 : mm_okf 91 9 8 2 := ⟨_, _, _, rfl, by decide +kernel, mm_in 166 (by decide +kernel) rfl⟩
theorem ln91_60 : Cond.methodLink (mm_yn 91).cls 60 (mm_yn 95) ∈ mm_tb := mm_in 682 (by decide +kernel) rfl
theorem im95 : Cond.instanceMethod (mm_yn 95) ∈ mm_tb := mm_in 684 (by decide +kernel) rfl
theorem se95 : Cond.selects (mm_yn 95).cls (mm_yn 95) (mm_yn 95) ∈ mm_tb := mm_ins 20 (by decide +kernel) rfl
theorem gs91_64 : Cond.fieldLink (mm_yn 91).cls 64 mm_oc (mm_on 2) mm_od ∈ mm_tb := mm_in 690 (by decide +kernel) rfl
theorem gs91_67 : Cond.fieldLink (mm_yn 91).cls 67 mm_oc (mm_on 0) mm_od ∈ mm_tb := mm_in 692 (by decide +kernel) rfl
theorem fk92_9 : mm_okf 92 9 5 2 := ⟨_, _, _, rfl, by decide +kernel, mm_in 100 (by decide +kernel) rfl⟩
theorem ln92_29 : Cond.methodLink (mm_yn 92).cls 29 (mm_yn 46) ∈ mm_tb := mm_in 472 (by decide +kernel) rfl
theorem ln93_75 : Cond.methodLink (mm_yn 93).cls 75 (mm_yn 94) ∈ mm_tb := mm_in 673 (by decide +kernel) rfl
theorem im94 : Cond.instanceMethod (mm_yn 94) ∈ mm_tb := mm_in 675 (by decide +kernel) rfl
theorem se94 : Cond.selects (mm_yn 94).cls (mm_yn 94) (mm_yn 94) ∈ mm_tb := mm_ins 19 (by decide +kernel) rfl
theorem fk94_15 : mm_okf 94 15 5 3 := ⟨_, _, _, rfl, by decide +kernel, mm_in 101 (by decide +kernel) rfl⟩
theorem fk94_25 : mm_okf 94 25 5 1 := ⟨_, _, _, rfl, by decide +kernel, mm_in 99 (by decide +kernel) rfl⟩
theorem fk94_9 : mm_okf 94 9 5 2 := ⟨_, _, _, rfl, by decide +kernel, mm_in 100 (by decide +kernel) rfl⟩
theorem ln94_78 : Cond.methodLink (mm_yn 94).cls 78 (mm_yn 27) ∈ mm_tb := mm_in 677 (by decide +kernel) rfl
theorem fk94_18 : mm_okf 94 18 5 4 := ⟨_, _, _, rfl, by decide +kernel, mm_in 102 (by decide +kernel) rfl⟩
theorem ln94_61 : Cond.methodLink (mm_yn 94).cls 61 (mm_yn 45) ∈ mm_tb := mm_in 468 (by decide +kernel) rfl
theorem ln94_75 : Cond.methodLink (mm_yn 94).cls 75 (mm_yn 94) ∈ mm_tb := mm_in 673 (by decide +kernel) rfl
theorem ln94_81 : Cond.methodLinkNest (mm_yn 94).cls 81 (mm_yn 28) "LazyTester" ∈ mm_tb := mm_in 678 (by decide +kernel) rfl
theorem fk95_15 : mm_okf 95 15 8 3 := ⟨_, _, _, rfl, by decide +kernel, mm_in 167 (by decide +kernel) rfl⟩
theorem fk95_26 : mm_okf 95 26 8 0 := ⟨_, _, _, rfl, by decide +kernel, mm_in 164 (by decide +kernel) rfl⟩
theorem fk95_9 : mm_okf 95 9 8 2 := ⟨_, _, _, rfl, by decide +kernel, mm_in 166 (by decide +kernel) rfl⟩
theorem ln95_70 : Cond.methodLink (mm_yn 95).cls 70 (mm_yn 96) ∈ mm_tb := mm_in 686 (by decide +kernel) rfl
theorem im96 : Cond.instanceMethod (mm_yn 96) ∈ mm_tb := mm_in 687 (by decide +kernel) rfl
theorem se96 : Cond.selects (mm_yn 96).cls (mm_yn 96) (mm_yn 96) ∈ mm_tb := mm_in 688 (by decide +kernel) rfl
theorem fp95_15 : mm_okp 95 8 3 := fun C T N h => by
  cases h
  exact Or.inl rfl
theorem fk96_9 : mm_okf 96 9 5 2 := ⟨_, _, _, rfl, by decide +kernel, mm_in 100 (by decide +kernel) rfl⟩
theorem ln96_72 : Cond.methodLink (mm_yn 96).cls 72 (mm_yn 85) ∈ mm_tb := mm_in 639 (by decide +kernel) rfl
theorem fk96_15 : mm_okf 96 15 5 3 := ⟨_, _, _, rfl, by decide +kernel, mm_in 101 (by decide +kernel) rfl⟩
theorem fk96_21 : mm_okf 96 21 5 0 := ⟨_, _, _, rfl, by decide +kernel, mm_in 98 (by decide +kernel) rfl⟩
theorem ln96_37 : Cond.methodLink (mm_yn 96).cls 37 (mm_yn 19) ∈ mm_tb := mm_in 457 (by decide +kernel) rfl
theorem ln96_43 : Cond.methodLink (mm_yn 96).cls 43 (mm_yn 21) ∈ mm_tb := mm_in 458 (by decide +kernel) rfl
theorem ln96_66 : Cond.methodLink (mm_yn 96).cls 66 (mm_yn 24) ∈ mm_tb := mm_in 467 (by decide +kernel) rfl
theorem ln96_53 : Cond.methodLink (mm_yn 96).cls 53 (mm_yn 44) ∈ mm_tb := mm_in 463 (by decide +kernel) rfl
theorem ln96_29 : Cond.methodLink (mm_yn 96).cls 29 (mm_yn 46) ∈ mm_tb := mm_in 472 (by decide +kernel) rfl
theorem fk97_19 : mm_okf 97 19 8 4 := ⟨_, _, _, rfl, by decide +kernel, mm_in 168 (by decide +kernel) rfl⟩
theorem fk98_22 : mm_okf 98 22 8 5 := ⟨_, _, _, rfl, by decide +kernel, mm_in 169 (by decide +kernel) rfl⟩
theorem oi99_1 : Cond.methodLink (mm_yn 99).cls 1 Lib.objectInit ∈ mm_tb := mm_in 710 (by decide +kernel) rfl
theorem fk99_7 : mm_okf 99 7 9 1 := ⟨_, _, _, rfl, by decide +kernel, mm_in 712 (by decide +kernel) rfl⟩
theorem fp99_7 : mm_okp 99 9 1 := fun C T N h => by
  cases h
  exact Or.inl rfl
theorem fk99_13 : mm_okf 99 13 9 2 := ⟨_, _, _, rfl, by decide +kernel, mm_in 713 (by decide +kernel) rfl⟩
theorem fp99_13 : mm_okp 99 9 2 := fun C T N h => by
  cases h
  exact Or.inl rfl
theorem fk99_16 : mm_okf 99 16 9 3 := ⟨_, _, _, rfl, by decide +kernel, mm_in 714 (by decide +kernel) rfl⟩
theorem fp99_16 : mm_okp 99 9 3 := fun C T N h => by
  cases h
  exact Or.inl rfl
theorem cb36 : (Int8.ofInt 36).toInt32 = 36 := by decide +kernel
theorem fk99_19 : mm_okf 99 19 9 4 := ⟨_, _, _, rfl, by decide +kernel, mm_in 715 (by decide +kernel) rfl⟩
theorem fp99_19 : mm_okp 99 9 4 := fun C T N h => by
  cases h
  exact Or.inl rfl
theorem fk99_23 : mm_okf 99 23 9 5 := ⟨_, _, _, rfl, by decide +kernel, mm_in 716 (by decide +kernel) rfl⟩
theorem fp99_23 : mm_okp 99 9 5 := fun C T N h => by
  cases h
  exact Or.inl rfl
theorem fk99_26 : mm_okf 99 26 9 6 := ⟨_, _, _, rfl, by decide +kernel, mm_in 717 (by decide +kernel) rfl⟩
theorem fp99_26 : mm_okp 99 9 6 := fun C T N h => by
  cases h
  exact Or.inl rfl
theorem fk99_29 : mm_okf 99 29 9 7 := ⟨_, _, _, rfl, by decide +kernel, mm_in 718 (by decide +kernel) rfl⟩
theorem fp99_29 : mm_okp 99 9 7 := fun C T N h => by
  cases h
  exact Or.inl rfl
theorem fk99_32 : mm_okf 99 32 9 9 := ⟨_, _, _, rfl, by decide +kernel, mm_in 720 (by decide +kernel) rfl⟩
theorem fp99_32 : mm_okp 99 9 9 := fun C T N h => by
  cases h
  exact Or.inl rfl
theorem cs512 : (Int16.ofInt 512).toInt32 = 512 := by decide +kernel
theorem fk99_35 : mm_okf 99 35 9 11 := ⟨_, _, _, rfl, by decide +kernel, mm_in 722 (by decide +kernel) rfl⟩
theorem fp99_35 : mm_okp 99 9 11 := fun C T N h => by
  cases h
  exact Or.inl rfl
theorem fk99_38 : mm_okf 99 38 9 12 := ⟨_, _, _, rfl, by decide +kernel, mm_in 723 (by decide +kernel) rfl⟩
theorem fp99_38 : mm_okp 99 9 12 := fun C T N h => by
  cases h
  exact Or.inl rfl
theorem fk99_41 : mm_okf 99 41 9 13 := ⟨_, _, _, rfl, by decide +kernel, mm_in 724 (by decide +kernel) rfl⟩
theorem fp99_41 : mm_okp 99 9 13 := fun C T N h => by
  cases h
  exact Or.inl rfl
theorem fk99_44 : mm_okf 99 44 9 15 := ⟨_, _, _, rfl, by decide +kernel, mm_in 726 (by decide +kernel) rfl⟩
theorem fp99_44 : mm_okp 99 9 15 := fun C T N h => by
  cases h
  exact Or.inl rfl
theorem fk99_47 : mm_okf 99 47 9 16 := ⟨_, _, _, rfl, by decide +kernel, mm_in 727 (by decide +kernel) rfl⟩
theorem fp99_47 : mm_okp 99 9 16 := fun C T N h => by
  cases h
  exact Or.inl rfl
theorem fk99_50 : mm_okf 99 50 9 17 := ⟨_, _, _, rfl, by decide +kernel, mm_in 728 (by decide +kernel) rfl⟩
theorem fp99_50 : mm_okp 99 9 17 := fun C T N h => by
  cases h
  exact Or.inl rfl
theorem fk99_53 : mm_okf 99 53 9 18 := ⟨_, _, _, rfl, by decide +kernel, mm_in 729 (by decide +kernel) rfl⟩
theorem fp99_53 : mm_okp 99 9 18 := fun C T N h => by
  cases h
  exact Or.inl rfl
theorem fk99_56 : mm_okf 99 56 9 20 := ⟨_, _, _, rfl, by decide +kernel, mm_in 731 (by decide +kernel) rfl⟩
theorem fp99_56 : mm_okp 99 9 20 := fun C T N h => by
  cases h
  exact Or.inl rfl
theorem fk99_59 : mm_okf 99 59 9 22 := ⟨_, _, _, rfl, by decide +kernel, mm_in 733 (by decide +kernel) rfl⟩
theorem fp99_59 : mm_okp 99 9 22 := fun C T N h => by
  cases h
  exact Or.inl rfl
theorem fk99_62 : mm_okf 99 62 9 23 := ⟨_, _, _, rfl, by decide +kernel, mm_in 734 (by decide +kernel) rfl⟩
theorem fp99_62 : mm_okp 99 9 23 := fun C T N h => by
  cases h
  exact Or.inl rfl
theorem fk100_65 : mm_okf 100 65 9 0 := ⟨_, _, _, rfl, by decide +kernel, mm_in 711 (by decide +kernel) rfl⟩
theorem ln101_69 : Cond.methodLink (mm_yn 101).cls 69 (mm_yn 102) ∈ mm_tb := mm_in 801 (by decide +kernel) rfl
theorem st102 : Cond.static (mm_yn 102) ∈ mm_tb := mm_in 802 (by decide +kernel) rfl
theorem fk101_65 : mm_okf 101 65 9 0 := ⟨_, _, _, rfl, by decide +kernel, mm_in 711 (by decide +kernel) rfl⟩
theorem fp101_65 : mm_okp 101 9 0 := fun C T N h => by
  cases h
  exact Or.inl rfl
theorem fk101_7 : mm_okf 101 7 9 1 := ⟨_, _, _, rfl, by decide +kernel, mm_in 712 (by decide +kernel) rfl⟩
theorem fk101_13 : mm_okf 101 13 9 2 := ⟨_, _, _, rfl, by decide +kernel, mm_in 713 (by decide +kernel) rfl⟩
theorem fk101_16 : mm_okf 101 16 9 3 := ⟨_, _, _, rfl, by decide +kernel, mm_in 714 (by decide +kernel) rfl⟩
theorem ln103_101 : Cond.methodLink (mm_yn 103).cls 101 (mm_yn 104) ∈ mm_tb := mm_in 808 (by decide +kernel) rfl
theorem st104 : Cond.static (mm_yn 104) ∈ mm_tb := mm_in 809 (by decide +kernel) rfl
theorem fk103_65 : mm_okf 103 65 9 0 := ⟨_, _, _, rfl, by decide +kernel, mm_in 711 (by decide +kernel) rfl⟩
theorem fp103_65 : mm_okp 103 9 0 := fun C T N h => by
  cases h
  exact Or.inl rfl
theorem ln103_105 : Cond.methodLink (mm_yn 103).cls 105 (mm_yn 105) ∈ mm_tb := mm_in 811 (by decide +kernel) rfl
theorem im105 : Cond.instanceMethod (mm_yn 105) ∈ mm_tb := mm_in 813 (by decide +kernel) rfl
theorem se105 : Cond.selects (mm_yn 105).cls (mm_yn 105) (mm_yn 105) ∈ mm_tb := mm_ins 21 (by decide +kernel) rfl
theorem fk103_19 : mm_okf 103 19 9 4 := ⟨_, _, _, rfl, by decide +kernel, mm_in 715 (by decide +kernel) rfl⟩
theorem ln104_69 : Cond.methodLink (mm_yn 104).cls 69 (mm_yn 102) ∈ mm_tb := mm_in 801 (by decide +kernel) rfl
theorem fk105_19 : mm_okf 105 19 9 4 := ⟨_, _, _, rfl, by decide +kernel, mm_in 715 (by decide +kernel) rfl⟩
theorem fk105_7 : mm_okf 105 7 9 1 := ⟨_, _, _, rfl, by decide +kernel, mm_in 712 (by decide +kernel) rfl⟩
theorem ln105_83 : Cond.methodLink (mm_yn 105).cls 83 (mm_yn 106) ∈ mm_tb := mm_in 815 (by decide +kernel) rfl
theorem im106 : Cond.instanceMethod (mm_yn 106) ∈ mm_tb := mm_in 817 (by decide +kernel) rfl
theorem se106 : Cond.selects (mm_yn 106).cls (mm_yn 106) (mm_yn 106) ∈ mm_tb := mm_ins 22 (by decide +kernel) rfl
theorem ln105_87 : Cond.methodLink (mm_yn 105).cls 87 (mm_yn 109) ∈ mm_tb := mm_in 827 (by decide +kernel) rfl
theorem st109 : Cond.static (mm_yn 109) ∈ mm_tb := mm_in 828 (by decide +kernel) rfl
theorem fk106_13 : mm_okf 106 13 9 2 := ⟨_, _, _, rfl, by decide +kernel, mm_in 713 (by decide +kernel) rfl⟩
theorem fk106_19 : mm_okf 106 19 9 4 := ⟨_, _, _, rfl, by decide +kernel, mm_in 715 (by decide +kernel) rfl⟩
theorem ln106_75 : Cond.methodLink (mm_yn 106).cls 75 (mm_yn 107) ∈ mm_tb := mm_in 819 (by decide +kernel) rfl
theorem im107 : Cond.instanceMethod (mm_yn 107) ∈ mm_tb := mm_in 821 (by decide +kernel) rfl
theorem se107 : Cond.selects (mm_yn 107).cls (mm_yn 107) (mm_yn 107) ∈ mm_tb := mm_ins 23 (by decide +kernel) rfl
theorem ln106_79 : Cond.methodLink (mm_yn 106).cls 79 (mm_yn 108) ∈ mm_tb := mm_in 823 (by decide +kernel) rfl
theorem st108 : Cond.static (mm_yn 108) ∈ mm_tb := mm_in 824 (by decide +kernel) rfl
theorem fk107_16 : mm_okf 107 16 9 3 := ⟨_, _, _, rfl, by decide +kernel, mm_in 714 (by decide +kernel) rfl⟩
theorem kl108_73 : Cond.constantLong (mm_yn 108).cls 73 1000000000000000 ∈ mm_tb := mm_in 826 (by decide +kernel) rfl
theorem kl109_73 : Cond.constantLong (mm_yn 109).cls 73 1000000000000000 ∈ mm_tb := mm_in 826 (by decide +kernel) rfl
theorem ln110_108 : Cond.methodLink (mm_yn 110).cls 108 (mm_yn 111) ∈ mm_tb := mm_in 834 (by decide +kernel) rfl
theorem st111 : Cond.static (mm_yn 111) ∈ mm_tb := mm_in 835 (by decide +kernel) rfl
theorem fk110_65 : mm_okf 110 65 9 0 := ⟨_, _, _, rfl, by decide +kernel, mm_in 711 (by decide +kernel) rfl⟩
theorem fp110_65 : mm_okp 110 9 0 := fun C T N h => by
  cases h
  exact Or.inl rfl
theorem ln110_111 : Cond.methodLink (mm_yn 110).cls 111 (mm_yn 112) ∈ mm_tb := mm_in 837 (by decide +kernel) rfl
theorem im112 : Cond.instanceMethod (mm_yn 112) ∈ mm_tb := mm_in 839 (by decide +kernel) rfl
theorem se112 : Cond.selects (mm_yn 112).cls (mm_yn 112) (mm_yn 112) ∈ mm_tb := mm_ins 24 (by decide +kernel) rfl
theorem fk110_23 : mm_okf 110 23 9 5 := ⟨_, _, _, rfl, by decide +kernel, mm_in 716 (by decide +kernel) rfl⟩
theorem ln111_69 : Cond.methodLink (mm_yn 111).cls 69 (mm_yn 102) ∈ mm_tb := mm_in 801 (by decide +kernel) rfl
theorem fk112_7 : mm_okf 112 7 9 1 := ⟨_, _, _, rfl, by decide +kernel, mm_in 712 (by decide +kernel) rfl⟩
theorem ln112_98 : Cond.methodLink (mm_yn 112).cls 98 (mm_yn 113) ∈ mm_tb := mm_in 841 (by decide +kernel) rfl
theorem im113 : Cond.instanceMethod (mm_yn 113) ∈ mm_tb := mm_in 843 (by decide +kernel) rfl
theorem se113 : Cond.selects (mm_yn 113).cls (mm_yn 113) (mm_yn 113) ∈ mm_tb := mm_ins 25 (by decide +kernel) rfl
theorem fk112_23 : mm_okf 112 23 9 5 := ⟨_, _, _, rfl, by decide +kernel, mm_in 716 (by decide +kernel) rfl⟩
theorem ln113_94 : Cond.methodLink (mm_yn 113).cls 94 (mm_yn 114) ∈ mm_tb := mm_in 845 (by decide +kernel) rfl
theorem im114 : Cond.instanceMethod (mm_yn 114) ∈ mm_tb := mm_in 847 (by decide +kernel) rfl
theorem se114 : Cond.selects (mm_yn 114).cls (mm_yn 114) (mm_yn 114) ∈ mm_tb := mm_ins 26 (by decide +kernel) rfl
theorem fk114_13 : mm_okf 114 13 9 2 := ⟨_, _, _, rfl, by decide +kernel, mm_in 713 (by decide +kernel) rfl⟩
theorem ln114_75 : Cond.methodLink (mm_yn 114).cls 75 (mm_yn 107) ∈ mm_tb := mm_in 819 (by decide +kernel) rfl
theorem ln114_90 : Cond.methodLink (mm_yn 114).cls 90 (mm_yn 115) ∈ mm_tb := mm_in 849 (by decide +kernel) rfl
theorem im115 : Cond.instanceMethod (mm_yn 115) ∈ mm_tb := mm_in 851 (by decide +kernel) rfl
theorem se115 : Cond.selects (mm_yn 115).cls (mm_yn 115) (mm_yn 115) ∈ mm_tb := mm_ins 27 (by decide +kernel) rfl
theorem fk115_23 : mm_okf 115 23 9 5 := ⟨_, _, _, rfl, by decide +kernel, mm_in 716 (by decide +kernel) rfl⟩
theorem ln116_101 : Cond.methodLink (mm_yn 116).cls 101 (mm_yn 104) ∈ mm_tb := mm_in 808 (by decide +kernel) rfl
theorem fk116_65 : mm_okf 116 65 9 0 := ⟨_, _, _, rfl, by decide +kernel, mm_in 711 (by decide +kernel) rfl⟩
theorem fp116_65 : mm_okp 116 9 0 := fun C T N h => by
  cases h
  exact Or.inl rfl
theorem ln116_105 : Cond.methodLink (mm_yn 116).cls 105 (mm_yn 105) ∈ mm_tb := mm_in 811 (by decide +kernel) rfl
theorem fk116_19 : mm_okf 116 19 9 4 := ⟨_, _, _, rfl, by decide +kernel, mm_in 715 (by decide +kernel) rfl⟩
theorem kl116_73 : Cond.constantLong (mm_yn 116).cls 73 1000000000000000 ∈ mm_tb := mm_in 826 (by decide +kernel) rfl
theorem ln116_135 : Cond.methodLink (mm_yn 116).cls 135 (mm_yn 117) ∈ mm_tb := mm_in 857 (by decide +kernel) rfl
theorem im117 : Cond.instanceMethod (mm_yn 117) ∈ mm_tb := mm_in 859 (by decide +kernel) rfl
theorem se117 : Cond.selects (mm_yn 117).cls (mm_yn 117) (mm_yn 117) ∈ mm_tb := mm_ins 28 (by decide +kernel) rfl
theorem ln116_138 : Cond.methodLink (mm_yn 116).cls 138 (mm_yn 122) ∈ mm_tb := mm_in 876 (by decide +kernel) rfl
theorem im122 : Cond.instanceMethod (mm_yn 122) ∈ mm_tb := mm_in 878 (by decide +kernel) rfl
theorem se122 : Cond.selects (mm_yn 122).cls (mm_yn 122) (mm_yn 122) ∈ mm_tb := mm_ins 32 (by decide +kernel) rfl
theorem fk116_132 : mm_okf 116 132 9 8 := ⟨_, _, _, rfl, by decide +kernel, mm_in 719 (by decide +kernel) rfl⟩
theorem ln117_121 : Cond.methodLink (mm_yn 117).cls 121 (mm_yn 118) ∈ mm_tb := mm_in 861 (by decide +kernel) rfl
theorem im118 : Cond.instanceMethod (mm_yn 118) ∈ mm_tb := mm_in 863 (by decide +kernel) rfl
theorem se118 : Cond.selects (mm_yn 118).cls (mm_yn 118) (mm_yn 118) ∈ mm_tb := mm_ins 29 (by decide +kernel) rfl
theorem fk117_114 : mm_okf 117 114 9 10 := ⟨_, _, _, rfl, by decide +kernel, mm_in 721 (by decide +kernel) rfl⟩
theorem fp117_114 : mm_okp 117 9 10 := fun C T N h => by
  cases h
  exact Or.inl rfl
theorem ln117_117 : Cond.methodLink (mm_yn 117).cls 117 (mm_yn 119) ∈ mm_tb := mm_in 865 (by decide +kernel) rfl
theorem im119 : Cond.instanceMethod (mm_yn 119) ∈ mm_tb := mm_in 867 (by decide +kernel) rfl
theorem se119 : Cond.selects (mm_yn 119).cls (mm_yn 119) (mm_yn 119) ∈ mm_tb := mm_ins 30 (by decide +kernel) rfl
theorem fk117_35 : mm_okf 117 35 9 11 := ⟨_, _, _, rfl, by decide +kernel, mm_in 722 (by decide +kernel) rfl⟩
theorem fk117_38 : mm_okf 117 38 9 12 := ⟨_, _, _, rfl, by decide +kernel, mm_in 723 (by decide +kernel) rfl⟩
theorem ln117_124 : Cond.methodLink (mm_yn 117).cls 124 (mm_yn 120) ∈ mm_tb := mm_in 869 (by decide +kernel) rfl
theorem st120 : Cond.static (mm_yn 120) ∈ mm_tb := mm_in 870 (by decide +kernel) rfl
theorem fk117_41 : mm_okf 117 41 9 13 := ⟨_, _, _, rfl, by decide +kernel, mm_in 724 (by decide +kernel) rfl⟩
theorem ln117_128 : Cond.methodLink (mm_yn 117).cls 128 (mm_yn 121) ∈ mm_tb := mm_in 872 (by decide +kernel) rfl
theorem im121 : Cond.instanceMethod (mm_yn 121) ∈ mm_tb := mm_in 874 (by decide +kernel) rfl
theorem se121 : Cond.selects (mm_yn 121).cls (mm_yn 121) (mm_yn 121) ∈ mm_tb := mm_ins 31 (by decide +kernel) rfl
theorem fk118_26 : mm_okf 118 26 9 6 := ⟨_, _, _, rfl, by decide +kernel, mm_in 717 (by decide +kernel) rfl⟩
theorem fk119_35 : mm_okf 119 35 9 11 := ⟨_, _, _, rfl, by decide +kernel, mm_in 722 (by decide +kernel) rfl⟩
theorem fk119_114 : mm_okf 119 114 9 10 := ⟨_, _, _, rfl, by decide +kernel, mm_in 721 (by decide +kernel) rfl⟩
theorem fk119_38 : mm_okf 119 38 9 12 := ⟨_, _, _, rfl, by decide +kernel, mm_in 723 (by decide +kernel) rfl⟩
theorem fk119_41 : mm_okf 119 41 9 13 := ⟨_, _, _, rfl, by decide +kernel, mm_in 724 (by decide +kernel) rfl⟩
theorem fp119_114 : mm_okp 119 9 10 := fun C T N h => by
  cases h
  exact Or.inl rfl
theorem ln121_83 : Cond.methodLink (mm_yn 121).cls 83 (mm_yn 106) ∈ mm_tb := mm_in 815 (by decide +kernel) rfl
theorem fk121_26 : mm_okf 121 26 9 6 := ⟨_, _, _, rfl, by decide +kernel, mm_in 717 (by decide +kernel) rfl⟩
theorem fk121_29 : mm_okf 121 29 9 7 := ⟨_, _, _, rfl, by decide +kernel, mm_in 718 (by decide +kernel) rfl⟩
theorem fk121_13 : mm_okf 121 13 9 2 := ⟨_, _, _, rfl, by decide +kernel, mm_in 713 (by decide +kernel) rfl⟩
theorem fk121_19 : mm_okf 121 19 9 4 := ⟨_, _, _, rfl, by decide +kernel, mm_in 715 (by decide +kernel) rfl⟩
theorem ln121_75 : Cond.methodLink (mm_yn 121).cls 75 (mm_yn 107) ∈ mm_tb := mm_in 819 (by decide +kernel) rfl
theorem ln121_117 : Cond.methodLink (mm_yn 121).cls 117 (mm_yn 119) ∈ mm_tb := mm_in 865 (by decide +kernel) rfl
theorem fk122_132 : mm_okf 122 132 9 8 := ⟨_, _, _, rfl, by decide +kernel, mm_in 719 (by decide +kernel) rfl⟩
theorem fp122_132 : mm_okp 122 9 8 := fun C T N h => by
  cases h
  exact Or.inl rfl
theorem fk122_114 : mm_okf 122 114 9 10 := ⟨_, _, _, rfl, by decide +kernel, mm_in 721 (by decide +kernel) rfl⟩
theorem fp122_114 : mm_okp 122 9 10 := fun C T N h => by
  cases h
  exact Or.inl rfl
theorem ln122_117 : Cond.methodLink (mm_yn 122).cls 117 (mm_yn 119) ∈ mm_tb := mm_in 865 (by decide +kernel) rfl
theorem fk122_35 : mm_okf 122 35 9 11 := ⟨_, _, _, rfl, by decide +kernel, mm_in 722 (by decide +kernel) rfl⟩
theorem fk122_32 : mm_okf 122 32 9 9 := ⟨_, _, _, rfl, by decide +kernel, mm_in 720 (by decide +kernel) rfl⟩
theorem fk122_26 : mm_okf 122 26 9 6 := ⟨_, _, _, rfl, by decide +kernel, mm_in 717 (by decide +kernel) rfl⟩
theorem fk122_13 : mm_okf 122 13 9 2 := ⟨_, _, _, rfl, by decide +kernel, mm_in 713 (by decide +kernel) rfl⟩
theorem fk122_29 : mm_okf 122 29 9 7 := ⟨_, _, _, rfl, by decide +kernel, mm_in 718 (by decide +kernel) rfl⟩
theorem ln123_108 : Cond.methodLink (mm_yn 123).cls 108 (mm_yn 111) ∈ mm_tb := mm_in 834 (by decide +kernel) rfl
theorem fk123_65 : mm_okf 123 65 9 0 := ⟨_, _, _, rfl, by decide +kernel, mm_in 711 (by decide +kernel) rfl⟩
theorem fp123_65 : mm_okp 123 9 0 := fun C T N h => by
  cases h
  exact Or.inl rfl
theorem ln123_111 : Cond.methodLink (mm_yn 123).cls 111 (mm_yn 112) ∈ mm_tb := mm_in 837 (by decide +kernel) rfl
theorem fk123_23 : mm_okf 123 23 9 5 := ⟨_, _, _, rfl, by decide +kernel, mm_in 716 (by decide +kernel) rfl⟩
theorem fk123_132 : mm_okf 123 132 9 8 := ⟨_, _, _, rfl, by decide +kernel, mm_in 719 (by decide +kernel) rfl⟩
theorem fp123_132 : mm_okp 123 9 8 := fun C T N h => by
  cases h
  exact Or.inl rfl
theorem fk123_114 : mm_okf 123 114 9 10 := ⟨_, _, _, rfl, by decide +kernel, mm_in 721 (by decide +kernel) rfl⟩
theorem fp123_114 : mm_okp 123 9 10 := fun C T N h => by
  cases h
  exact Or.inl rfl
theorem ln123_117 : Cond.methodLink (mm_yn 123).cls 117 (mm_yn 119) ∈ mm_tb := mm_in 865 (by decide +kernel) rfl
theorem fk123_35 : mm_okf 123 35 9 11 := ⟨_, _, _, rfl, by decide +kernel, mm_in 722 (by decide +kernel) rfl⟩
theorem fk123_38 : mm_okf 123 38 9 12 := ⟨_, _, _, rfl, by decide +kernel, mm_in 723 (by decide +kernel) rfl⟩
theorem fk123_41 : mm_okf 123 41 9 13 := ⟨_, _, _, rfl, by decide +kernel, mm_in 724 (by decide +kernel) rfl⟩
theorem ln123_141 : Cond.methodLink (mm_yn 123).cls 141 (mm_yn 124) ∈ mm_tb := mm_in 884 (by decide +kernel) rfl
theorem im124 : Cond.instanceMethod (mm_yn 124) ∈ mm_tb := mm_in 886 (by decide +kernel) rfl
theorem se124 : Cond.selects (mm_yn 124).cls (mm_yn 124) (mm_yn 124) ∈ mm_tb := mm_ins 33 (by decide +kernel) rfl
theorem ln124_98 : Cond.methodLink (mm_yn 124).cls 98 (mm_yn 113) ∈ mm_tb := mm_in 841 (by decide +kernel) rfl
theorem fk124_32 : mm_okf 124 32 9 9 := ⟨_, _, _, rfl, by decide +kernel, mm_in 720 (by decide +kernel) rfl⟩
theorem fk124_132 : mm_okf 124 132 9 8 := ⟨_, _, _, rfl, by decide +kernel, mm_in 719 (by decide +kernel) rfl⟩
theorem fp124_132 : mm_okp 124 9 8 := fun C T N h => by
  cases h
  exact Or.inl rfl
theorem ln124_94 : Cond.methodLink (mm_yn 124).cls 94 (mm_yn 114) ∈ mm_tb := mm_in 845 (by decide +kernel) rfl
theorem fk124_13 : mm_okf 124 13 9 2 := ⟨_, _, _, rfl, by decide +kernel, mm_in 713 (by decide +kernel) rfl⟩
theorem ln124_75 : Cond.methodLink (mm_yn 124).cls 75 (mm_yn 107) ∈ mm_tb := mm_in 819 (by decide +kernel) rfl
theorem ln124_90 : Cond.methodLink (mm_yn 124).cls 90 (mm_yn 115) ∈ mm_tb := mm_in 849 (by decide +kernel) rfl
theorem ln124_117 : Cond.methodLink (mm_yn 124).cls 117 (mm_yn 119) ∈ mm_tb := mm_in 865 (by decide +kernel) rfl
theorem fk125_65 : mm_okf 125 65 9 0 := ⟨_, _, _, rfl, by decide +kernel, mm_in 711 (by decide +kernel) rfl⟩
theorem fp125_65 : mm_okp 125 9 0 := fun C T N h => by
  cases h
  exact Or.inl rfl
theorem fk125_132 : mm_okf 125 132 9 8 := ⟨_, _, _, rfl, by decide +kernel, mm_in 719 (by decide +kernel) rfl⟩
theorem fk125_32 : mm_okf 125 32 9 9 := ⟨_, _, _, rfl, by decide +kernel, mm_in 720 (by decide +kernel) rfl⟩
theorem ln126_150 : Cond.methodLink (mm_yn 126).cls 150 (mm_yn 127) ∈ mm_tb := mm_in 896 (by decide +kernel) rfl
theorem st127 : Cond.static (mm_yn 127) ∈ mm_tb := mm_in 897 (by decide +kernel) rfl
theorem fk126_144 : mm_okf 126 144 9 14 := ⟨_, _, _, rfl, by decide +kernel, mm_in 725 (by decide +kernel) rfl⟩
theorem fk126_65 : mm_okf 126 65 9 0 := ⟨_, _, _, rfl, by decide +kernel, mm_in 711 (by decide +kernel) rfl⟩
theorem fp126_65 : mm_okp 126 9 0 := fun C T N h => by
  cases h
  exact Or.inl rfl
theorem ln126_153 : Cond.methodLink (mm_yn 126).cls 153 (mm_yn 128) ∈ mm_tb := mm_in 899 (by decide +kernel) rfl
theorem im128 : Cond.instanceMethod (mm_yn 128) ∈ mm_tb := mm_in 901 (by decide +kernel) rfl
theorem se128 : Cond.selects (mm_yn 128).cls (mm_yn 128) (mm_yn 128) ∈ mm_tb := mm_ins 34 (by decide +kernel) rfl
theorem ln127_124 : Cond.methodLink (mm_yn 127).cls 124 (mm_yn 120) ∈ mm_tb := mm_in 869 (by decide +kernel) rfl
theorem fk128_44 : mm_okf 128 44 9 15 := ⟨_, _, _, rfl, by decide +kernel, mm_in 726 (by decide +kernel) rfl⟩
theorem fk128_144 : mm_okf 128 144 9 14 := ⟨_, _, _, rfl, by decide +kernel, mm_in 725 (by decide +kernel) rfl⟩
theorem fk128_47 : mm_okf 128 47 9 16 := ⟨_, _, _, rfl, by decide +kernel, mm_in 727 (by decide +kernel) rfl⟩
theorem fk128_50 : mm_okf 128 50 9 17 := ⟨_, _, _, rfl, by decide +kernel, mm_in 728 (by decide +kernel) rfl⟩
theorem fk128_56 : mm_okf 128 56 9 20 := ⟨_, _, _, rfl, by decide +kernel, mm_in 731 (by decide +kernel) rfl⟩
theorem fk128_147 : mm_okf 128 147 9 19 := ⟨_, _, _, rfl, by decide +kernel, mm_in 730 (by decide +kernel) rfl⟩
theorem fp128_144 : mm_okp 128 9 14 := fun C T N h => by
  cases h
  exact Or.inl rfl
theorem fp128_147 : mm_okp 128 9 19 := fun C T N h => by
  cases h
  exact Or.inl rfl
theorem ln129_150 : Cond.methodLink (mm_yn 129).cls 150 (mm_yn 127) ∈ mm_tb := mm_in 896 (by decide +kernel) rfl
theorem fk129_144 : mm_okf 129 144 9 14 := ⟨_, _, _, rfl, by decide +kernel, mm_in 725 (by decide +kernel) rfl⟩
theorem fk129_65 : mm_okf 129 65 9 0 := ⟨_, _, _, rfl, by decide +kernel, mm_in 711 (by decide +kernel) rfl⟩
theorem fp129_65 : mm_okp 129 9 0 := fun C T N h => by
  cases h
  exact Or.inl rfl
theorem ln129_153 : Cond.methodLink (mm_yn 129).cls 153 (mm_yn 128) ∈ mm_tb := mm_in 899 (by decide +kernel) rfl
theorem fk130_147 : mm_okf 130 147 9 19 := ⟨_, _, _, rfl, by decide +kernel, mm_in 730 (by decide +kernel) rfl⟩
theorem fk130_144 : mm_okf 130 144 9 14 := ⟨_, _, _, rfl, by decide +kernel, mm_in 725 (by decide +kernel) rfl⟩
theorem fk130_65 : mm_okf 130 65 9 0 := ⟨_, _, _, rfl, by decide +kernel, mm_in 711 (by decide +kernel) rfl⟩
theorem fp130_65 : mm_okp 130 9 0 := fun C T N h => by
  cases h
  exact Or.inl rfl
theorem fk130_56 : mm_okf 130 56 9 20 := ⟨_, _, _, rfl, by decide +kernel, mm_in 731 (by decide +kernel) rfl⟩
theorem fp130_147 : mm_okp 130 9 19 := fun C T N h => by
  cases h
  exact Or.inl rfl
theorem ln130_153 : Cond.methodLink (mm_yn 130).cls 153 (mm_yn 128) ∈ mm_tb := mm_in 899 (by decide +kernel) rfl
theorem fk131_65 : mm_okf 131 65 9 0 := ⟨_, _, _, rfl, by decide +kernel, mm_in 711 (by decide +kernel) rfl⟩
theorem fp131_65 : mm_okp 131 9 0 := fun C T N h => by
  cases h
  exact Or.inl rfl
theorem fk131_147 : mm_okf 131 147 9 19 := ⟨_, _, _, rfl, by decide +kernel, mm_in 730 (by decide +kernel) rfl⟩
theorem fp131_147 : mm_okp 131 9 19 := fun C T N h => by
  cases h
  exact Or.inl rfl
theorem fk131_144 : mm_okf 131 144 9 14 := ⟨_, _, _, rfl, by decide +kernel, mm_in 725 (by decide +kernel) rfl⟩
theorem fp131_144 : mm_okp 131 9 14 := fun C T N h => by
  cases h
  exact Or.inl rfl
theorem ln132_101 : Cond.methodLink (mm_yn 132).cls 101 (mm_yn 104) ∈ mm_tb := mm_in 808 (by decide +kernel) rfl
theorem fk132_65 : mm_okf 132 65 9 0 := ⟨_, _, _, rfl, by decide +kernel, mm_in 711 (by decide +kernel) rfl⟩
theorem fp132_65 : mm_okp 132 9 0 := fun C T N h => by
  cases h
  exact Or.inl rfl
theorem ln132_105 : Cond.methodLink (mm_yn 132).cls 105 (mm_yn 105) ∈ mm_tb := mm_in 811 (by decide +kernel) rfl
theorem fk132_19 : mm_okf 132 19 9 4 := ⟨_, _, _, rfl, by decide +kernel, mm_in 715 (by decide +kernel) rfl⟩
theorem fk132_147 : mm_okf 132 147 9 19 := ⟨_, _, _, rfl, by decide +kernel, mm_in 730 (by decide +kernel) rfl⟩
theorem kl132_168 : Cond.constantLong (mm_yn 132).cls 168 1000 ∈ mm_tb := mm_in 919 (by decide +kernel) rfl
theorem fk132_170 : mm_okf 132 170 9 25 := ⟨_, _, _, rfl, by decide +kernel, mm_in 736 (by decide +kernel) rfl⟩
theorem fp132_170 : mm_okp 132 9 25 := fun C T N h => by
  cases h
  exact Or.inl rfl
theorem fk132_173 : mm_okf 132 173 9 26 := ⟨_, _, _, rfl, by decide +kernel, mm_in 737 (by decide +kernel) rfl⟩
theorem fp132_173 : mm_okp 132 9 26 := fun C T N h => by
  cases h
  exact Or.inl rfl
theorem ln132_135 : Cond.methodLink (mm_yn 132).cls 135 (mm_yn 117) ∈ mm_tb := mm_in 857 (by decide +kernel) rfl
theorem ln132_177 : Cond.methodLink (mm_yn 132).cls 177 (mm_yn 133) ∈ mm_tb := mm_in 920 (by decide +kernel) rfl
theorem im133 : Cond.instanceMethod (mm_yn 133) ∈ mm_tb := mm_in 922 (by decide +kernel) rfl
theorem se133 : Cond.selects (mm_yn 133).cls (mm_yn 133) (mm_yn 133) ∈ mm_tb := mm_ins 35 (by decide +kernel) rfl
theorem ln132_138 : Cond.methodLink (mm_yn 132).cls 138 (mm_yn 122) ∈ mm_tb := mm_in 876 (by decide +kernel) rfl
theorem fk133_56 : mm_okf 133 56 9 20 := ⟨_, _, _, rfl, by decide +kernel, mm_in 731 (by decide +kernel) rfl⟩
theorem fk133_147 : mm_okf 133 147 9 19 := ⟨_, _, _, rfl, by decide +kernel, mm_in 730 (by decide +kernel) rfl⟩
theorem fk133_44 : mm_okf 133 44 9 15 := ⟨_, _, _, rfl, by decide +kernel, mm_in 726 (by decide +kernel) rfl⟩
theorem fk133_53 : mm_okf 133 53 9 18 := ⟨_, _, _, rfl, by decide +kernel, mm_in 729 (by decide +kernel) rfl⟩
theorem fk133_47 : mm_okf 133 47 9 16 := ⟨_, _, _, rfl, by decide +kernel, mm_in 727 (by decide +kernel) rfl⟩
theorem fk133_50 : mm_okf 133 50 9 17 := ⟨_, _, _, rfl, by decide +kernel, mm_in 728 (by decide +kernel) rfl⟩
theorem ln133_162 : Cond.methodLink (mm_yn 133).cls 162 (mm_yn 134) ∈ mm_tb := mm_in 924 (by decide +kernel) rfl
theorem im134 : Cond.instanceMethod (mm_yn 134) ∈ mm_tb := mm_in 926 (by decide +kernel) rfl
theorem se134 : Cond.selects (mm_yn 134).cls (mm_yn 134) (mm_yn 134) ∈ mm_tb := mm_ins 36 (by decide +kernel) rfl
theorem ln133_165 : Cond.methodLink (mm_yn 133).cls 165 (mm_yn 137) ∈ mm_tb := mm_in 935 (by decide +kernel) rfl
theorem im137 : Cond.instanceMethod (mm_yn 137) ∈ mm_tb := mm_in 937 (by decide +kernel) rfl
theorem se137 : Cond.selects (mm_yn 137).cls (mm_yn 137) (mm_yn 137) ∈ mm_tb := mm_ins 38 (by decide +kernel) rfl
theorem ln134_159 : Cond.methodLink (mm_yn 134).cls 159 (mm_yn 135) ∈ mm_tb := mm_in 928 (by decide +kernel) rfl
theorem im135 : Cond.instanceMethod (mm_yn 135) ∈ mm_tb := mm_in 930 (by decide +kernel) rfl
theorem se135 : Cond.selects (mm_yn 135).cls (mm_yn 135) (mm_yn 135) ∈ mm_tb := mm_ins 37 (by decide +kernel) rfl
theorem fk134_26 : mm_okf 134 26 9 6 := ⟨_, _, _, rfl, by decide +kernel, mm_in 717 (by decide +kernel) rfl⟩
theorem ln135_124 : Cond.methodLink (mm_yn 135).cls 124 (mm_yn 120) ∈ mm_tb := mm_in 869 (by decide +kernel) rfl
theorem fk135_26 : mm_okf 135 26 9 6 := ⟨_, _, _, rfl, by decide +kernel, mm_in 717 (by decide +kernel) rfl⟩
theorem ln135_156 : Cond.methodLink (mm_yn 135).cls 156 (mm_yn 136) ∈ mm_tb := mm_in 932 (by decide +kernel) rfl
theorem st136 : Cond.static (mm_yn 136) ∈ mm_tb := mm_in 933 (by decide +kernel) rfl
theorem fk135_13 : mm_okf 135 13 9 2 := ⟨_, _, _, rfl, by decide +kernel, mm_in 713 (by decide +kernel) rfl⟩
theorem fk135_29 : mm_okf 135 29 9 7 := ⟨_, _, _, rfl, by decide +kernel, mm_in 718 (by decide +kernel) rfl⟩
theorem ln136_124 : Cond.methodLink (mm_yn 136).cls 124 (mm_yn 120) ∈ mm_tb := mm_in 869 (by decide +kernel) rfl
theorem ln137_159 : Cond.methodLink (mm_yn 137).cls 159 (mm_yn 135) ∈ mm_tb := mm_in 928 (by decide +kernel) rfl
theorem fk137_114 : mm_okf 137 114 9 10 := ⟨_, _, _, rfl, by decide +kernel, mm_in 721 (by decide +kernel) rfl⟩
theorem fp137_114 : mm_okp 137 9 10 := fun C T N h => by
  cases h
  exact Or.inl rfl
theorem ln137_117 : Cond.methodLink (mm_yn 137).cls 117 (mm_yn 119) ∈ mm_tb := mm_in 865 (by decide +kernel) rfl
theorem fk137_35 : mm_okf 137 35 9 11 := ⟨_, _, _, rfl, by decide +kernel, mm_in 722 (by decide +kernel) rfl⟩
theorem fk137_38 : mm_okf 137 38 9 12 := ⟨_, _, _, rfl, by decide +kernel, mm_in 723 (by decide +kernel) rfl⟩
theorem fk137_26 : mm_okf 137 26 9 6 := ⟨_, _, _, rfl, by decide +kernel, mm_in 717 (by decide +kernel) rfl⟩
theorem fk137_13 : mm_okf 137 13 9 2 := ⟨_, _, _, rfl, by decide +kernel, mm_in 713 (by decide +kernel) rfl⟩
theorem fk137_29 : mm_okf 137 29 9 7 := ⟨_, _, _, rfl, by decide +kernel, mm_in 718 (by decide +kernel) rfl⟩
theorem ln138_101 : Cond.methodLink (mm_yn 138).cls 101 (mm_yn 104) ∈ mm_tb := mm_in 808 (by decide +kernel) rfl
theorem fk138_65 : mm_okf 138 65 9 0 := ⟨_, _, _, rfl, by decide +kernel, mm_in 711 (by decide +kernel) rfl⟩
theorem fp138_65 : mm_okp 138 9 0 := fun C T N h => by
  cases h
  exact Or.inl rfl
theorem fk138_147 : mm_okf 138 147 9 19 := ⟨_, _, _, rfl, by decide +kernel, mm_in 730 (by decide +kernel) rfl⟩
theorem ln138_105 : Cond.methodLink (mm_yn 138).cls 105 (mm_yn 105) ∈ mm_tb := mm_in 811 (by decide +kernel) rfl
theorem ln138_121 : Cond.methodLink (mm_yn 138).cls 121 (mm_yn 118) ∈ mm_tb := mm_in 861 (by decide +kernel) rfl
theorem fk138_26 : mm_okf 138 26 9 6 := ⟨_, _, _, rfl, by decide +kernel, mm_in 717 (by decide +kernel) rfl⟩
theorem fk138_29 : mm_okf 138 29 9 7 := ⟨_, _, _, rfl, by decide +kernel, mm_in 718 (by decide +kernel) rfl⟩
theorem fk138_181 : mm_okf 138 181 9 24 := ⟨_, _, _, rfl, by decide +kernel, mm_in 735 (by decide +kernel) rfl⟩
theorem fp138_181 : mm_okp 138 9 24 := fun C T N h => by
  cases h
  exact Or.inl rfl
theorem fk138_184 : mm_okf 138 184 9 21 := ⟨_, _, _, rfl, by decide +kernel, mm_in 732 (by decide +kernel) rfl⟩
theorem fp138_184 : mm_okp 138 9 21 := fun C T N h => by
  cases h
  exact Or.inl rfl
theorem fk138_170 : mm_okf 138 170 9 25 := ⟨_, _, _, rfl, by decide +kernel, mm_in 736 (by decide +kernel) rfl⟩
theorem fp138_170 : mm_okp 138 9 25 := fun C T N h => by
  cases h
  exact Or.inl rfl
theorem fk138_173 : mm_okf 138 173 9 26 := ⟨_, _, _, rfl, by decide +kernel, mm_in 737 (by decide +kernel) rfl⟩
theorem fp138_173 : mm_okp 138 9 26 := fun C T N h => by
  cases h
  exact Or.inl rfl
theorem ln138_198 : Cond.methodLink (mm_yn 138).cls 198 (mm_yn 139) ∈ mm_tb := mm_in 943 (by decide +kernel) rfl
theorem im139 : Cond.instanceMethod (mm_yn 139) ∈ mm_tb := mm_in 945 (by decide +kernel) rfl
theorem se139 : Cond.selects (mm_yn 139).cls (mm_yn 139) (mm_yn 139) ∈ mm_tb := mm_ins 39 (by decide +kernel) rfl
theorem ln138_138 : Cond.methodLink (mm_yn 138).cls 138 (mm_yn 122) ∈ mm_tb := mm_in 876 (by decide +kernel) rfl
theorem fk139_170 : mm_okf 139 170 9 25 := ⟨_, _, _, rfl, by decide +kernel, mm_in 736 (by decide +kernel) rfl⟩
theorem fp139_170 : mm_okp 139 9 25 := fun C T N h => by
  cases h
  exact Or.inl rfl
theorem ln139_177 : Cond.methodLink (mm_yn 139).cls 177 (mm_yn 133) ∈ mm_tb := mm_in 920 (by decide +kernel) rfl
theorem ln139_191 : Cond.methodLink (mm_yn 139).cls 191 (mm_yn 140) ∈ mm_tb := mm_in 947 (by decide +kernel) rfl
theorem im140 : Cond.instanceMethod (mm_yn 140) ∈ mm_tb := mm_in 949 (by decide +kernel) rfl
theorem se140 : Cond.selects (mm_yn 140).cls (mm_yn 140) (mm_yn 140) ∈ mm_tb := mm_ins 40 (by decide +kernel) rfl
theorem fk139_173 : mm_okf 139 173 9 26 := ⟨_, _, _, rfl, by decide +kernel, mm_in 737 (by decide +kernel) rfl⟩
theorem ln139_87 : Cond.methodLink (mm_yn 139).cls 87 (mm_yn 109) ∈ mm_tb := mm_in 827 (by decide +kernel) rfl
theorem fp139_173 : mm_okp 139 9 26 := fun C T N h => by
  cases h
  exact Or.inl rfl
theorem fk139_59 : mm_okf 139 59 9 22 := ⟨_, _, _, rfl, by decide +kernel, mm_in 733 (by decide +kernel) rfl⟩
theorem fk139_184 : mm_okf 139 184 9 21 := ⟨_, _, _, rfl, by decide +kernel, mm_in 732 (by decide +kernel) rfl⟩
theorem fk139_62 : mm_okf 139 62 9 23 := ⟨_, _, _, rfl, by decide +kernel, mm_in 734 (by decide +kernel) rfl⟩
theorem fp139_184 : mm_okp 139 9 21 := fun C T N h => by
  cases h
  exact Or.inl rfl
theorem ln139_195 : Cond.methodLink (mm_yn 139).cls 195 (mm_yn 141) ∈ mm_tb := mm_in 951 (by decide +kernel) rfl
theorem im141 : Cond.instanceMethod (mm_yn 141) ∈ mm_tb := mm_in 953 (by decide +kernel) rfl
theorem se141 : Cond.selects (mm_yn 141).cls (mm_yn 141) (mm_yn 141) ∈ mm_tb := mm_ins 41 (by decide +kernel) rfl
theorem fk140_26 : mm_okf 140 26 9 6 := ⟨_, _, _, rfl, by decide +kernel, mm_in 717 (by decide +kernel) rfl⟩
theorem fk140_19 : mm_okf 140 19 9 4 := ⟨_, _, _, rfl, by decide +kernel, mm_in 715 (by decide +kernel) rfl⟩
theorem fk140_29 : mm_okf 140 29 9 7 := ⟨_, _, _, rfl, by decide +kernel, mm_in 718 (by decide +kernel) rfl⟩
theorem fk140_181 : mm_okf 140 181 9 24 := ⟨_, _, _, rfl, by decide +kernel, mm_in 735 (by decide +kernel) rfl⟩
theorem ln140_124 : Cond.methodLink (mm_yn 140).cls 124 (mm_yn 120) ∈ mm_tb := mm_in 869 (by decide +kernel) rfl
theorem ln140_79 : Cond.methodLink (mm_yn 140).cls 79 (mm_yn 108) ∈ mm_tb := mm_in 823 (by decide +kernel) rfl
theorem fk141_184 : mm_okf 141 184 9 21 := ⟨_, _, _, rfl, by decide +kernel, mm_in 732 (by decide +kernel) rfl⟩
theorem ln141_187 : Cond.methodLink (mm_yn 141).cls 187 (mm_yn 142) ∈ mm_tb := mm_in 955 (by decide +kernel) rfl
theorem im142 : Cond.instanceMethod (mm_yn 142) ∈ mm_tb := mm_in 957 (by decide +kernel) rfl
theorem se142 : Cond.selects (mm_yn 142).cls (mm_yn 142) (mm_yn 142) ∈ mm_tb := mm_ins 42 (by decide +kernel) rfl
theorem fk142_59 : mm_okf 142 59 9 22 := ⟨_, _, _, rfl, by decide +kernel, mm_in 733 (by decide +kernel) rfl⟩
theorem fk142_184 : mm_okf 142 184 9 21 := ⟨_, _, _, rfl, by decide +kernel, mm_in 732 (by decide +kernel) rfl⟩
theorem fk142_29 : mm_okf 142 29 9 7 := ⟨_, _, _, rfl, by decide +kernel, mm_in 718 (by decide +kernel) rfl⟩
theorem fk142_62 : mm_okf 142 62 9 23 := ⟨_, _, _, rfl, by decide +kernel, mm_in 734 (by decide +kernel) rfl⟩
theorem fk142_13 : mm_okf 142 13 9 2 := ⟨_, _, _, rfl, by decide +kernel, mm_in 713 (by decide +kernel) rfl⟩
theorem fk142_26 : mm_okf 142 26 9 6 := ⟨_, _, _, rfl, by decide +kernel, mm_in 717 (by decide +kernel) rfl⟩
theorem fk142_7 : mm_okf 142 7 9 1 := ⟨_, _, _, rfl, by decide +kernel, mm_in 712 (by decide +kernel) rfl⟩
theorem ln142_124 : Cond.methodLink (mm_yn 142).cls 124 (mm_yn 120) ∈ mm_tb := mm_in 869 (by decide +kernel) rfl
theorem fk142_181 : mm_okf 142 181 9 24 := ⟨_, _, _, rfl, by decide +kernel, mm_in 735 (by decide +kernel) rfl⟩
theorem fp142_184 : mm_okp 142 9 21 := fun C T N h => by
  cases h
  exact Or.inl rfl
theorem ln142_75 : Cond.methodLink (mm_yn 142).cls 75 (mm_yn 107) ∈ mm_tb := mm_in 819 (by decide +kernel) rfl
theorem fk143_65 : mm_okf 143 65 9 0 := ⟨_, _, _, rfl, by decide +kernel, mm_in 711 (by decide +kernel) rfl⟩
theorem fp143_65 : mm_okp 143 9 0 := fun C T N h => by
  cases h
  exact Or.inl rfl
theorem fk143_170 : mm_okf 143 170 9 25 := ⟨_, _, _, rfl, by decide +kernel, mm_in 736 (by decide +kernel) rfl⟩
theorem fk144_65 : mm_okf 144 65 9 0 := ⟨_, _, _, rfl, by decide +kernel, mm_in 711 (by decide +kernel) rfl⟩
theorem fp144_65 : mm_okp 144 9 0 := fun C T N h => by
  cases h
  exact Or.inl rfl
theorem fk144_173 : mm_okf 144 173 9 26 := ⟨_, _, _, rfl, by decide +kernel, mm_in 737 (by decide +kernel) rfl⟩
theorem ln145_51 : Cond.methodLink (mm_yn 145).cls 51 (mm_yn 0) ∈ mm_tb := mm_in 23 (by decide +kernel) rfl
theorem im0 : Cond.instanceMethod (mm_yn 0) ∈ mm_tb := mm_in 24 (by decide +kernel) rfl
theorem ln145_54 : Cond.methodLink (mm_yn 145).cls 54 (mm_yn 99) ∈ mm_tb := mm_in 707 (by decide +kernel) rfl
theorem im99 : Cond.instanceMethod (mm_yn 99) ∈ mm_tb := mm_in 708 (by decide +kernel) rfl
theorem cb15 : (Int8.ofInt 15).toInt32 = 15 := by decide +kernel
theorem ln145_55 : Cond.methodLink (mm_yn 145).cls 55 (mm_yn 15) ∈ mm_tb := mm_in 238 (by decide +kernel) rfl
theorem st15 : Cond.static (mm_yn 15) ∈ mm_tb := mm_in 239 (by decide +kernel) rfl
theorem ln145_60 : Cond.methodLink (mm_yn 145).cls 60 (mm_yn 101) ∈ mm_tb := mm_in 797 (by decide +kernel) rfl
theorem im101 : Cond.instanceMethod (mm_yn 101) ∈ mm_tb := mm_in 798 (by decide +kernel) rfl
theorem se101 : Cond.selects (mm_yn 101).cls (mm_yn 101) (mm_yn 101) ∈ mm_tb := mm_in 799 (by decide +kernel) rfl
theorem ln145_61 : Cond.methodLink (mm_yn 145).cls 61 (mm_yn 100) ∈ mm_tb := mm_in 793 (by decide +kernel) rfl
theorem im100 : Cond.instanceMethod (mm_yn 100) ∈ mm_tb := mm_in 794 (by decide +kernel) rfl
theorem se100 : Cond.selects (mm_yn 100).cls (mm_yn 100) (mm_yn 100) ∈ mm_tb := mm_in 795 (by decide +kernel) rfl
theorem ln145_65 : Cond.methodLink (mm_yn 145).cls 65 (mm_yn 35) ∈ mm_tb := mm_in 426 (by decide +kernel) rfl
theorem st35 : Cond.static (mm_yn 35) ∈ mm_tb := mm_in 427 (by decide +kernel) rfl
theorem ln145_68 : Cond.methodLink (mm_yn 145).cls 68 (mm_yn 103) ∈ mm_tb := mm_in 804 (by decide +kernel) rfl
theorem im103 : Cond.instanceMethod (mm_yn 103) ∈ mm_tb := mm_in 805 (by decide +kernel) rfl
theorem se103 : Cond.selects (mm_yn 103).cls (mm_yn 103) (mm_yn 103) ∈ mm_tb := mm_in 806 (by decide +kernel) rfl
theorem cb32 : (Int8.ofInt 32).toInt32 = 32 := by decide +kernel
theorem kl145_69 : Cond.constantLong (mm_yn 145).cls 69 4294967295 ∈ mm_tb := mm_in 967 (by decide +kernel) rfl
theorem ln145_71 : Cond.methodLink (mm_yn 145).cls 71 (mm_yn 38) ∈ mm_tb := mm_in 438 (by decide +kernel) rfl
theorem st38 : Cond.static (mm_yn 38) ∈ mm_tb := mm_in 439 (by decide +kernel) rfl
theorem ln145_74 : Cond.methodLink (mm_yn 145).cls 74 (mm_yn 116) ∈ mm_tb := mm_in 853 (by decide +kernel) rfl
theorem im116 : Cond.instanceMethod (mm_yn 116) ∈ mm_tb := mm_in 854 (by decide +kernel) rfl
theorem se116 : Cond.selects (mm_yn 116).cls (mm_yn 116) (mm_yn 116) ∈ mm_tb := mm_in 855 (by decide +kernel) rfl
theorem ln145_75 : Cond.methodLink (mm_yn 145).cls 75 (mm_yn 52) ∈ mm_tb := mm_in 497 (by decide +kernel) rfl
theorem st52 : Cond.static (mm_yn 52) ∈ mm_tb := mm_in 498 (by decide +kernel) rfl
theorem ln145_77 : Cond.methodLink (mm_yn 145).cls 77 (mm_yn 110) ∈ mm_tb := mm_in 830 (by decide +kernel) rfl
theorem im110 : Cond.instanceMethod (mm_yn 110) ∈ mm_tb := mm_in 831 (by decide +kernel) rfl
theorem se110 : Cond.selects (mm_yn 110).cls (mm_yn 110) (mm_yn 110) ∈ mm_tb := mm_in 832 (by decide +kernel) rfl
theorem ln145_78 : Cond.methodLink (mm_yn 145).cls 78 (mm_yn 55) ∈ mm_tb := mm_in 509 (by decide +kernel) rfl
theorem st55 : Cond.static (mm_yn 55) ∈ mm_tb := mm_in 510 (by decide +kernel) rfl
theorem ln145_80 : Cond.methodLink (mm_yn 145).cls 80 (mm_yn 123) ∈ mm_tb := mm_in 880 (by decide +kernel) rfl
theorem im123 : Cond.instanceMethod (mm_yn 123) ∈ mm_tb := mm_in 881 (by decide +kernel) rfl
theorem se123 : Cond.selects (mm_yn 123).cls (mm_yn 123) (mm_yn 123) ∈ mm_tb := mm_in 882 (by decide +kernel) rfl
theorem ln145_81 : Cond.methodLink (mm_yn 145).cls 81 (mm_yn 9) ∈ mm_tb := mm_in 214 (by decide +kernel) rfl
theorem im9 : Cond.instanceMethod (mm_yn 9) ∈ mm_tb := mm_in 215 (by decide +kernel) rfl
theorem se9 : Cond.selects (mm_yn 9).cls (mm_yn 9) (mm_yn 9) ∈ mm_tb := mm_in 216 (by decide +kernel) rfl
theorem ln145_84 : Cond.methodLink (mm_yn 145).cls 84 (mm_yn 125) ∈ mm_tb := mm_in 888 (by decide +kernel) rfl
theorem im125 : Cond.instanceMethod (mm_yn 125) ∈ mm_tb := mm_in 889 (by decide +kernel) rfl
theorem se125 : Cond.selects (mm_yn 125).cls (mm_yn 125) (mm_yn 125) ∈ mm_tb := mm_in 890 (by decide +kernel) rfl
theorem ln145_85 : Cond.methodLink (mm_yn 145).cls 85 (mm_yn 63) ∈ mm_tb := mm_in 548 (by decide +kernel) rfl
theorem st63 : Cond.static (mm_yn 63) ∈ mm_tb := mm_in 549 (by decide +kernel) rfl
theorem ln145_87 : Cond.methodLink (mm_yn 145).cls 87 (mm_yn 126) ∈ mm_tb := mm_in 892 (by decide +kernel) rfl
theorem im126 : Cond.instanceMethod (mm_yn 126) ∈ mm_tb := mm_in 893 (by decide +kernel) rfl
theorem se126 : Cond.selects (mm_yn 126).cls (mm_yn 126) (mm_yn 126) ∈ mm_tb := mm_in 894 (by decide +kernel) rfl
theorem ln145_88 : Cond.methodLink (mm_yn 145).cls 88 (mm_yn 70) ∈ mm_tb := mm_in 576 (by decide +kernel) rfl
theorem st70 : Cond.static (mm_yn 70) ∈ mm_tb := mm_in 577 (by decide +kernel) rfl
theorem ln145_90 : Cond.methodLink (mm_yn 145).cls 90 (mm_yn 129) ∈ mm_tb := mm_in 903 (by decide +kernel) rfl
theorem im129 : Cond.instanceMethod (mm_yn 129) ∈ mm_tb := mm_in 904 (by decide +kernel) rfl
theorem se129 : Cond.selects (mm_yn 129).cls (mm_yn 129) (mm_yn 129) ∈ mm_tb := mm_in 905 (by decide +kernel) rfl
theorem ln145_91 : Cond.methodLink (mm_yn 145).cls 91 (mm_yn 72) ∈ mm_tb := mm_in 583 (by decide +kernel) rfl
theorem st72 : Cond.static (mm_yn 72) ∈ mm_tb := mm_in 584 (by decide +kernel) rfl
theorem ln145_94 : Cond.methodLink (mm_yn 145).cls 94 (mm_yn 130) ∈ mm_tb := mm_in 907 (by decide +kernel) rfl
theorem im130 : Cond.instanceMethod (mm_yn 130) ∈ mm_tb := mm_in 908 (by decide +kernel) rfl
theorem se130 : Cond.selects (mm_yn 130).cls (mm_yn 130) (mm_yn 130) ∈ mm_tb := mm_in 909 (by decide +kernel) rfl
theorem ln145_95 : Cond.methodLink (mm_yn 145).cls 95 (mm_yn 11) ∈ mm_tb := mm_in 222 (by decide +kernel) rfl
theorem im11 : Cond.instanceMethod (mm_yn 11) ∈ mm_tb := mm_in 223 (by decide +kernel) rfl
theorem se11 : Cond.selects (mm_yn 11).cls (mm_yn 11) (mm_yn 11) ∈ mm_tb := mm_in 224 (by decide +kernel) rfl
theorem ln145_98 : Cond.methodLink (mm_yn 145).cls 98 (mm_yn 131) ∈ mm_tb := mm_in 911 (by decide +kernel) rfl
theorem im131 : Cond.instanceMethod (mm_yn 131) ∈ mm_tb := mm_in 912 (by decide +kernel) rfl
theorem se131 : Cond.selects (mm_yn 131).cls (mm_yn 131) (mm_yn 131) ∈ mm_tb := mm_in 913 (by decide +kernel) rfl
theorem ln145_99 : Cond.methodLink (mm_yn 145).cls 99 (mm_yn 77) ∈ mm_tb := mm_in 605 (by decide +kernel) rfl
theorem st77 : Cond.static (mm_yn 77) ∈ mm_tb := mm_in 606 (by decide +kernel) rfl
theorem ln145_101 : Cond.methodLink (mm_yn 145).cls 101 (mm_yn 132) ∈ mm_tb := mm_in 915 (by decide +kernel) rfl
theorem im132 : Cond.instanceMethod (mm_yn 132) ∈ mm_tb := mm_in 916 (by decide +kernel) rfl
theorem se132 : Cond.selects (mm_yn 132).cls (mm_yn 132) (mm_yn 132) ∈ mm_tb := mm_in 917 (by decide +kernel) rfl
theorem ln145_102 : Cond.methodLink (mm_yn 145).cls 102 (mm_yn 89) ∈ mm_tb := mm_in 653 (by decide +kernel) rfl
theorem st89 : Cond.static (mm_yn 89) ∈ mm_tb := mm_in 654 (by decide +kernel) rfl
theorem ln145_104 : Cond.methodLink (mm_yn 145).cls 104 (mm_yn 138) ∈ mm_tb := mm_in 939 (by decide +kernel) rfl
theorem im138 : Cond.instanceMethod (mm_yn 138) ∈ mm_tb := mm_in 940 (by decide +kernel) rfl
theorem se138 : Cond.selects (mm_yn 138).cls (mm_yn 138) (mm_yn 138) ∈ mm_tb := mm_in 941 (by decide +kernel) rfl
theorem ln145_105 : Cond.methodLink (mm_yn 145).cls 105 (mm_yn 13) ∈ mm_tb := mm_in 230 (by decide +kernel) rfl
theorem im13 : Cond.instanceMethod (mm_yn 13) ∈ mm_tb := mm_in 231 (by decide +kernel) rfl
theorem se13 : Cond.selects (mm_yn 13).cls (mm_yn 13) (mm_yn 13) ∈ mm_tb := mm_in 232 (by decide +kernel) rfl
theorem ln145_108 : Cond.methodLink (mm_yn 145).cls 108 (mm_yn 143) ∈ mm_tb := mm_in 959 (by decide +kernel) rfl
theorem im143 : Cond.instanceMethod (mm_yn 143) ∈ mm_tb := mm_in 960 (by decide +kernel) rfl
theorem se143 : Cond.selects (mm_yn 143).cls (mm_yn 143) (mm_yn 143) ∈ mm_tb := mm_in 961 (by decide +kernel) rfl
theorem ln145_109 : Cond.methodLink (mm_yn 145).cls 109 (mm_yn 14) ∈ mm_tb := mm_in 234 (by decide +kernel) rfl
theorem im14 : Cond.instanceMethod (mm_yn 14) ∈ mm_tb := mm_in 235 (by decide +kernel) rfl
theorem se14 : Cond.selects (mm_yn 14).cls (mm_yn 14) (mm_yn 14) ∈ mm_tb := mm_in 236 (by decide +kernel) rfl
theorem ln145_113 : Cond.methodLink (mm_yn 145).cls 113 (mm_yn 144) ∈ mm_tb := mm_in 963 (by decide +kernel) rfl
theorem im144 : Cond.instanceMethod (mm_yn 144) ∈ mm_tb := mm_in 964 (by decide +kernel) rfl
theorem se144 : Cond.selects (mm_yn 144).cls (mm_yn 144) (mm_yn 144) ∈ mm_tb := mm_in 965 (by decide +kernel) rfl
theorem ci6 : Int32.ofInt 6 = 6 := by decide +kernel
theorem lc0 : Int64.ofNat ((0 : Fin 2) : Nat) = 0 := by decide +kernel
theorem lc1 : Int64.ofNat ((1 : Fin 2) : Nat) = 1 := by decide +kernel
