/-! ===== blocks ===== -/
theorem b9_0 {l : Launch} {X : Nat × (Nat → Int32)} {d : Nat} {I : Nat → Nat → Int32} {J : Nat → Nat → Int64} {x1 : Int32} {mc ms : Nat} {o : mm_O} {σ' : mm_S} {r : Int32} {I1 : Nat → Nat → Int32} {J1 : Nat → Nat → Int64} (hcall : mm_Call l X 10 d [.ref 11, .int x1] (mm_Λ, I, J) 0 0 (.inl (some (.int r))) (mm_Λ, I1, J1)) (hr : mm_Run l X 9 (d + 1) 8 [.ref 0, .int x1] [.int r] (mm_Λ, I1, J1) mc ms o σ') : mm_Run l X 9 (d + 1) 0 [.ref 0, .int x1] [] (mm_Λ, I, J) mc ms o σ' := by
  refine mm_aload_n (v := .ref 0) d9_0 rfl (Or.inl ⟨_, rfl⟩) ?_
  refine mm_getfield (v := .ref 11) d9_1 okc0 fk9_35 rfl rfl (by nofun) ?_
  refine mm_iload_n d9_4 rfl ?_
  exact mm_callV0 (as := [.int x1]) (S := []) d9_5 okm10 ln9_143 im10 se10 rfl ⟨_, _, rfl⟩ rfl rfl (Nat.le_of_ble_eq_true rfl) (Nat.le_of_ble_eq_true rfl) hcall hr
theorem b9_8 {l : Launch} {X : Nat × (Nat → Int32)} {d : Nat} {I : Nat → Nat → Int32} {J : Nat → Nat → Int64} {x1 : Int32} {s0 : Int32} {mc ms : Nat}  : mm_Run l X 9 (d + 1) 8 [.ref 0, .int x1] [.int s0] (mm_Λ, I, J) mc ms (.inl (some (.int s0))) (mm_Λ, I, J) := by
  exact mm_ireturn d9_8 rfl
theorem b10_0 {l : Launch} {X : Nat × (Nat → Int32)} {d : Nat} {I : Nat → Nat → Int32} {J : Nat → Nat → Int64} {x1 : Int32} {mc ms : Nat} {o : mm_O} {σ' : mm_S} (kt : x1 < 0 → mm_Run l X 10 d 12 [.ref 11, .int x1] [] (mm_Λ, I, J) mc ms o σ') (kf : ¬ (x1 < 0) → mm_Run l X 10 d 4 [.ref 11, .int x1] [] (mm_Λ, I, J) mc ms o σ') : mm_Run l X 10 d 0 [.ref 11, .int x1] [] (mm_Λ, I, J) mc ms o σ' := by
  refine mm_iload_n d10_0 rfl ?_
  refine mm_if (tgt := 12) d10_1 (by decide) (fun h => ?_) (fun h => ?_)
  · exact kt h
  · exact kf h
theorem b10_4 {l : Launch} {X : Nat × (Nat → Int32)} {d : Nat} {I : Nat → Nat → Int32} {J : Nat → Nat → Int64} {x1 : Int32} {mc ms : Nat} {o : mm_O} {σ' : mm_S} (kt : x1 < (I 11 1) → mm_Run l X 10 d 16 [.ref 11, .int x1] [] (mm_Λ, I, J) mc ms o σ') (kf : ¬ (x1 < (I 11 1)) → mm_Run l X 10 d 12 [.ref 11, .int x1] [] (mm_Λ, I, J) mc ms o σ') : mm_Run l X 10 d 4 [.ref 11, .int x1] [] (mm_Λ, I, J) mc ms o σ' := by
  refine mm_iload_n d10_4 rfl ?_
  refine mm_aload_n (v := .ref 11) d10_5 rfl (Or.inl ⟨_, rfl⟩) ?_
  refine mm_getfield (v := .int (I 11 1)) d10_6 okc4 fk10_15 rfl rfl (by nofun) ?_
  refine mm_icmp (tgt := 16) d10_9 (by decide) (fun h => ?_) (fun h => ?_)
  · exact kt h
  · exact kf h
theorem b10_12 {l : Launch} {X : Nat × (Nat → Int32)} {d : Nat} {I : Nat → Nat → Int32} {J : Nat → Nat → Int64} {x1 : Int32} {mc ms : Nat} {o : mm_O} {σ' : mm_S} (hr : mm_Run l X 10 d 22 [.ref 11, .int x1] [.int (-1)] (mm_Λ, I, J) mc ms o σ') : mm_Run l X 10 d 12 [.ref 11, .int x1] [] (mm_Λ, I, J) mc ms o σ' := by
  refine mm_ic d10_12 cim1 ?_
  refine mm_goto (tgt := 22) d10_13 (by decide) ?_
  exact hr
theorem b10_16 {l : Launch} {X : Nat × (Nat → Int32)} {d : Nat} {I : Nat → Nat → Int32} {J : Nat → Nat → Int64} {x1 : Int32} {mc ms : Nat} {o : mm_O} {σ' : mm_S} (i21 : vp_in x1 121) (hr : mm_Run l X 10 d 22 [.ref 11, .int x1] [.int (I 12 x1.toNatClampNeg)] (mm_Λ, I, J) mc ms o σ') : mm_Run l X 10 d 16 [.ref 11, .int x1] [] (mm_Λ, I, J) mc ms o σ' := by
  refine mm_aload_n (v := .ref 11) d10_16 rfl (Or.inl ⟨_, rfl⟩) ?_
  refine mm_getfield (v := .ref 12) d10_17 okc4 fk10_9 rfl rfl (by nofun) ?_
  refine mm_iload_n d10_20 rfl ?_
  refine mm_iaload d10_21 rfl i21 ?_
  exact hr
theorem b10_22 {l : Launch} {X : Nat × (Nat → Int32)} {d : Nat} {I : Nat → Nat → Int32} {J : Nat → Nat → Int64} {x1 : Int32} {s0 : Int32} {mc ms : Nat}  : mm_Run l X 10 d 22 [.ref 11, .int x1] [.int s0] (mm_Λ, I, J) mc ms (.inl (some (.int s0))) (mm_Λ, I, J) := by
  exact mm_ireturn d10_22 rfl
theorem b11_0 {l : Launch} {X : Nat × (Nat → Int32)} {d : Nat} {I : Nat → Nat → Int32} {J : Nat → Nat → Int64}  {mc ms : Nat} {o : mm_O} {σ' : mm_S} {I1 : Nat → Nat → Int32} {J1 : Nat → Nat → Int64} (hcall : mm_Call l X 12 d [.ref 19] (mm_Λ, I, J) 0 0 (.inl none) (mm_Λ, I1, J1)) (hr : mm_Run l X 11 (d + 1) 7 [.ref 0] [] (mm_Λ, I1, J1) mc ms o σ') : mm_Run l X 11 (d + 1) 0 [.ref 0] [] (mm_Λ, I, J) mc ms o σ' := by
  refine mm_aload_n (v := .ref 0) d11_0 rfl (Or.inl ⟨_, rfl⟩) ?_
  refine mm_getfield (v := .ref 19) d11_1 okc0 fk11_60 rfl rfl (by nofun) ?_
  exact mm_callV0 (as := []) (S := []) d11_4 okm12 ln11_171 im12 se12 rfl ⟨_, _, rfl⟩ rfl rfl (Nat.le_of_ble_eq_true rfl) (Nat.le_of_ble_eq_true rfl) hcall hr
theorem b11_7 {l : Launch} {X : Nat × (Nat → Int32)} {d : Nat} {I : Nat → Nat → Int32} {J : Nat → Nat → Int64}  {mc ms : Nat}  : mm_Run l X 11 (d + 1) 7 [.ref 0] [] (mm_Λ, I, J) mc ms (.inl none) (mm_Λ, I, J) := by
  exact mm_vreturn d11_7 rfl
theorem b12_0 {l : Launch} {X : Nat × (Nat → Int32)} {d : Nat} {I : Nat → Nat → Int32} {J : Nat → Nat → Int64}  {mc ms : Nat}  : mm_Run l X 12 d 0 [.ref 19] [] (mm_Λ, I, J) mc ms (.inl none) (mm_Λ, (mm_set (mm_set I 19 4 0) 19 5 0), J) := by
  refine mm_aload_n (v := .ref 19) d12_0 rfl (Or.inl ⟨_, rfl⟩) ?_
  refine mm_ic d12_1 ci0 ?_
  refine mm_putfield d12_2 okc7 fk12_24 fp12_24 rfl rfl rfl ?_
  refine mm_aload_n (v := .ref 19) d12_5 rfl (Or.inl ⟨_, rfl⟩) ?_
  refine mm_ic d12_6 ci0 ?_
  refine mm_putfield d12_7 okc7 fk12_28 fp12_28 rfl rfl rfl ?_
  exact mm_vreturn d12_10 rfl
theorem b13_0 {l : Launch} {X : Nat × (Nat → Int32)} {d : Nat} {I : Nat → Nat → Int32} {J : Nat → Nat → Int64}  {mc ms : Nat}  : mm_Run l X 13 d 0 [.ref 0] [] (mm_Λ, I, J) mc ms (.inl (some (.int (I 0 8)))) (mm_Λ, I, J) := by
  refine mm_aload_n (v := .ref 0) d13_0 rfl (Or.inl ⟨_, rfl⟩) ?_
  refine mm_getfield (v := .int (I 0 8)) d13_1 okc0 fk13_73 rfl rfl (by nofun) ?_
  exact mm_ireturn d13_4 rfl
theorem b14_0 {l : Launch} {X : Nat × (Nat → Int32)} {d : Nat} {I : Nat → Nat → Int32} {J : Nat → Nat → Int64}  {mc ms : Nat}  : mm_Run l X 14 d 0 [.ref 0] [] (mm_Λ, I, J) mc ms (.inl (some (.long (J 0 9)))) (mm_Λ, I, J) := by
  refine mm_aload_n (v := .ref 0) d14_0 rfl (Or.inl ⟨_, rfl⟩) ?_
  refine mm_getfield (v := .long (J 0 9)) d14_1 okc0 fk14_77 rfl rfl (by nofun) ?_
  exact mm_lreturn d14_4 rfl
theorem b16_0 {l : Launch} {X : Nat × (Nat → Int32)} {d : Nat} {I : Nat → Nat → Int32} {J : Nat → Nat → Int64} {x1 : Int32} {x2 : Int32} {x3 : Int32} {x4 : Int32} {x5 : Int32} {mc ms : Nat} {o : mm_O} {σ' : mm_S} {I1 : Nat → Nat → Int32} {J1 : Nat → Nat → Int64} (hcall : mm_Call l X 17 d [.int x1] (mm_Λ, I, J) 0 0 (.inl none) (mm_Λ, I1, J1)) (hr : mm_Run l X 16 (d + 1) 4 [.ref 0, .int x1, .int x2, .int x3, .int x4, .int x5, .null] [] (mm_Λ, I1, J1) mc ms o σ') : mm_Run l X 16 (d + 1) 0 [.ref 0, .int x1, .int x2, .int x3, .int x4, .int x5, .null] [] (mm_Λ, I, J) mc ms o σ' := by
  refine mm_iload_n d16_0 rfl ?_
  exact mm_callS0 (as := [.int x1]) (S := []) d16_1 okm17 ln16_81 st17 rfl rfl (Nat.le_of_ble_eq_true rfl) (Nat.le_of_ble_eq_true rfl) hcall hr
theorem b16_0t {l : Launch} {X : Nat × (Nat → Int32)} {d : Nat} {I : Nat → Nat → Int32} {J : Nat → Nat → Int64} {x1 : Int32} {x2 : Int32} {x3 : Int32} {x4 : Int32} {x5 : Int32} {mc ms : Nat} {E : String} {I1 : Nat → Nat → Int32} {J1 : Nat → Nat → Int64} (hcall : mm_Call l X 17 d [.int x1] (mm_Λ, I, J) mc ms (.inr E) (mm_Λ, I1, J1)) : mm_Run l X 16 (d + 1) 0 [.ref 0, .int x1, .int x2, .int x3, .int x4, .int x5, .null] [] (mm_Λ, I, J) mc ms (.inr E) (mm_Λ, I1, J1) := by
  refine mm_iload_n d16_0 rfl ?_
  exact mm_thrown_out (mm_callST (as := [.int x1]) (S := []) d16_1 okm17 ln16_81 st17 rfl rfl (Nat.le_of_ble_eq_true rfl) (Nat.le_of_ble_eq_true rfl) hcall) rfl
theorem b16_4 {l : Launch} {X : Nat × (Nat → Int32)} {d : Nat} {I : Nat → Nat → Int32} {J : Nat → Nat → Int64} {x1 : Int32} {x2 : Int32} {x3 : Int32} {x4 : Int32} {x5 : Int32} {mc ms : Nat} {o : mm_O} {σ' : mm_S} (kt : x2 < 0 → mm_Run l X 16 (d + 1) 13 [.ref 0, .int x1, .int x2, .int x3, .int x4, .int x5, .null] [] (mm_Λ, I, J) mc ms o σ') (kf : ¬ (x2 < 0) → mm_Run l X 16 (d + 1) 8 [.ref 0, .int x1, .int x2, .int x3, .int x4, .int x5, .null] [] (mm_Λ, I, J) mc ms o σ') : mm_Run l X 16 (d + 1) 4 [.ref 0, .int x1, .int x2, .int x3, .int x4, .int x5, .null] [] (mm_Λ, I, J) mc ms o σ' := by
  refine mm_iload_n d16_4 rfl ?_
  refine mm_if (tgt := 13) d16_5 (by decide) (fun h => ?_) (fun h => ?_)
  · exact kt h
  · exact kf h
theorem b16_8 {l : Launch} {X : Nat × (Nat → Int32)} {d : Nat} {I : Nat → Nat → Int32} {J : Nat → Nat → Int64} {x1 : Int32} {x2 : Int32} {x3 : Int32} {x4 : Int32} {x5 : Int32} {mc ms : Nat} {o : mm_O} {σ' : mm_S} (kt : x2 ≤ 3 → mm_Run l X 16 (d + 1) 23 [.ref 0, .int x1, .int x2, .int x3, .int x4, .int x5, .null] [] (mm_Λ, I, J) mc ms o σ') (kf : ¬ (x2 ≤ 3) → mm_Run l X 16 (d + 1) 13 [.ref 0, .int x1, .int x2, .int x3, .int x4, .int x5, .null] [] (mm_Λ, I, J) mc ms o σ') : mm_Run l X 16 (d + 1) 8 [.ref 0, .int x1, .int x2, .int x3, .int x4, .int x5, .null] [] (mm_Λ, I, J) mc ms o σ' := by
  refine mm_iload_n d16_8 rfl ?_
  refine mm_ic d16_9 ci3 ?_
  refine mm_icmp (tgt := 23) d16_10 (by decide) (fun h => ?_) (fun h => ?_)
  · exact kt h
  · exact kf h
theorem b16_13 {l : Launch} {X : Nat × (Nat → Int32)} {d : Nat} {I : Nat → Nat → Int32} {J : Nat → Nat → Int64} {x1 : Int32} {x2 : Int32} {x3 : Int32} {x4 : Int32} {x5 : Int32}   : mm_Run l X 16 (d + 1) 13 [.ref 0, .int x1, .int x2, .int x3, .int x4, .int x5, .null] [] (mm_Λ, I, J) 1 6 (.inr (mm_ex 1)) (mm_Λ, I, J) := by
  exact thr16_13
theorem b16_23 {l : Launch} {X : Nat × (Nat → Int32)} {d : Nat} {I : Nat → Nat → Int32} {J : Nat → Nat → Int64} {x1 : Int32} {x2 : Int32} {x3 : Int32} {x4 : Int32} {x5 : Int32} {mc ms : Nat} {o : mm_O} {σ' : mm_S} {I1 : Nat → Nat → Int32} {J1 : Nat → Nat → Int64} (hcall : mm_Call l X 18 d [.int x2, .int x3, .int x4, .int x5] (mm_Λ, I, J) 0 0 (.inl none) (mm_Λ, I1, J1)) (hr : mm_Run l X 16 (d + 1) 32 [.ref 0, .int x1, .int x2, .int x3, .int x4, .int x5, .null] [] (mm_Λ, I1, J1) mc ms o σ') : mm_Run l X 16 (d + 1) 23 [.ref 0, .int x1, .int x2, .int x3, .int x4, .int x5, .null] [] (mm_Λ, I, J) mc ms o σ' := by
  refine mm_iload_n d16_23 rfl ?_
  refine mm_iload_n d16_24 rfl ?_
  refine mm_iload d16_25 rfl ?_
  refine mm_iload d16_27 rfl ?_
  exact mm_callS0 (as := [.int x2, .int x3, .int x4, .int x5]) (S := []) d16_29 okm18 ln16_92 st18 rfl rfl (Nat.le_of_ble_eq_true rfl) (Nat.le_of_ble_eq_true rfl) hcall hr
theorem b16_23t {l : Launch} {X : Nat × (Nat → Int32)} {d : Nat} {I : Nat → Nat → Int32} {J : Nat → Nat → Int64} {x1 : Int32} {x2 : Int32} {x3 : Int32} {x4 : Int32} {x5 : Int32} {mc ms : Nat} {E : String} {I1 : Nat → Nat → Int32} {J1 : Nat → Nat → Int64} (hcall : mm_Call l X 18 d [.int x2, .int x3, .int x4, .int x5] (mm_Λ, I, J) mc ms (.inr E) (mm_Λ, I1, J1)) : mm_Run l X 16 (d + 1) 23 [.ref 0, .int x1, .int x2, .int x3, .int x4, .int x5, .null] [] (mm_Λ, I, J) mc ms (.inr E) (mm_Λ, I1, J1) := by
  refine mm_iload_n d16_23 rfl ?_
  refine mm_iload_n d16_24 rfl ?_
  refine mm_iload d16_25 rfl ?_
  refine mm_iload d16_27 rfl ?_
  exact mm_thrown_out (mm_callST (as := [.int x2, .int x3, .int x4, .int x5]) (S := []) d16_29 okm18 ln16_92 st18 rfl rfl (Nat.le_of_ble_eq_true rfl) (Nat.le_of_ble_eq_true rfl) hcall) rfl
theorem b16_32 {l : Launch} {X : Nat × (Nat → Int32)} {d : Nat} {I : Nat → Nat → Int32} {J : Nat → Nat → Int64} {x1 : Int32} {x2 : Int32} {x3 : Int32} {x4 : Int32} {x5 : Int32} {mc ms : Nat} {o : mm_O} {σ' : mm_S} {r : Int32} {I1 : Nat → Nat → Int32} {J1 : Nat → Nat → Int64} (hcall : mm_Call l X 19 d [.ref 1, .int x1] (mm_Λ, I, J) 0 0 (.inl (some (.int r))) (mm_Λ, I1, J1)) (hr : mm_Run l X 16 (d + 1) 40 [.ref 0, .int x1, .int x2, .int x3, .int x4, .int x5, .null] [.int r] (mm_Λ, I1, J1) mc ms o σ') : mm_Run l X 16 (d + 1) 32 [.ref 0, .int x1, .int x2, .int x3, .int x4, .int x5, .null] [] (mm_Λ, I, J) mc ms o σ' := by
  refine mm_aload_n (v := .ref 0) d16_32 rfl (Or.inl ⟨_, rfl⟩) ?_
  refine mm_getfield (v := .ref 1) d16_33 okc0 fk16_10 rfl rfl (by nofun) ?_
  refine mm_iload_n d16_36 rfl ?_
  exact mm_callV0 (as := [.int x1]) (S := []) d16_37 okm19 ln16_96 im19 se19 rfl ⟨_, _, rfl⟩ rfl rfl (Nat.le_of_ble_eq_true rfl) (Nat.le_of_ble_eq_true rfl) hcall hr
theorem b16_40 {l : Launch} {X : Nat × (Nat → Int32)} {d : Nat} {I : Nat → Nat → Int32} {J : Nat → Nat → Int64} {x1 : Int32} {x2 : Int32} {x3 : Int32} {x4 : Int32} {x5 : Int32} {s0 : Int32} {mc ms : Nat} {o : mm_O} {σ' : mm_S} (kt : s0 < 4 → mm_Run l X 16 (d + 1) 54 [.ref 0, .int x1, .int x2, .int x3, .int x4, .int x5, .null] [] (mm_Λ, I, J) mc ms o σ') (kf : ¬ (s0 < 4) → mm_Run l X 16 (d + 1) 44 [.ref 0, .int x1, .int x2, .int x3, .int x4, .int x5, .null] [] (mm_Λ, I, J) mc ms o σ') : mm_Run l X 16 (d + 1) 40 [.ref 0, .int x1, .int x2, .int x3, .int x4, .int x5, .null] [.int s0] (mm_Λ, I, J) mc ms o σ' := by
  refine mm_ic d16_40 ci4 ?_
  refine mm_icmp (tgt := 54) d16_41 (by decide) (fun h => ?_) (fun h => ?_)
  · exact kt h
  · exact kf h
theorem b16_44 {l : Launch} {X : Nat × (Nat → Int32)} {d : Nat} {I : Nat → Nat → Int32} {J : Nat → Nat → Int64} {x1 : Int32} {x2 : Int32} {x3 : Int32} {x4 : Int32} {x5 : Int32}   : mm_Run l X 16 (d + 1) 44 [.ref 0, .int x1, .int x2, .int x3, .int x4, .int x5, .null] [] (mm_Λ, I, J) 1 6 (.inr (mm_ex 2)) (mm_Λ, I, J) := by
  exact thr16_44
theorem b16_54 {l : Launch} {X : Nat × (Nat → Int32)} {d : Nat} {I : Nat → Nat → Int32} {J : Nat → Nat → Int64} {x1 : Int32} {x2 : Int32} {x3 : Int32} {x4 : Int32} {x5 : Int32} {mc ms : Nat} {o : mm_O} {σ' : mm_S} {r : Int32} {I1 : Nat → Nat → Int32} {J1 : Nat → Nat → Int64} (hcall : mm_Call l X 20 d [.ref 1, .int x1, .int x2, .int x3, .int x4, .int x5] (mm_Λ, I, J) 0 0 (.inl (some (.int r))) (mm_Λ, I1, J1)) (hr : mm_Run l X 16 (d + 1) 68 [.ref 0, .int x1, .int x2, .int x3, .int x4, .int x5, .null] [.int r] (mm_Λ, I1, J1) mc ms o σ') : mm_Run l X 16 (d + 1) 54 [.ref 0, .int x1, .int x2, .int x3, .int x4, .int x5, .null] [] (mm_Λ, I, J) mc ms o σ' := by
  refine mm_aload_n (v := .ref 0) d16_54 rfl (Or.inl ⟨_, rfl⟩) ?_
  refine mm_getfield (v := .ref 1) d16_55 okc0 fk16_10 rfl rfl (by nofun) ?_
  refine mm_iload_n d16_58 rfl ?_
  refine mm_iload_n d16_59 rfl ?_
  refine mm_iload_n d16_60 rfl ?_
  refine mm_iload d16_61 rfl ?_
  refine mm_iload d16_63 rfl ?_
  exact mm_callV0 (as := [.int x1, .int x2, .int x3, .int x4, .int x5]) (S := []) d16_65 okm20 ln16_105 im20 se20 rfl ⟨_, _, rfl⟩ rfl rfl (Nat.le_of_ble_eq_true rfl) (Nat.le_of_ble_eq_true rfl) hcall hr
theorem b16_68 {l : Launch} {X : Nat × (Nat → Int32)} {d : Nat} {I : Nat → Nat → Int32} {J : Nat → Nat → Int64} {x1 : Int32} {x2 : Int32} {x3 : Int32} {x4 : Int32} {x5 : Int32} {s0 : Int32} {mc ms : Nat} {o : mm_O} {σ' : mm_S} {I1 : Nat → Nat → Int32} {J1 : Nat → Nat → Int64} (hcall : mm_Call l X 22 d [.ref 5] (mm_Λ, I, J) 0 0 (.inl none) (mm_Λ, I1, J1)) (hr : mm_Run l X 16 (d + 1) 77 [.ref 0, .int x1, .int x2, .int x3, .int x4, .int x5, .int s0] [] (mm_Λ, I1, J1) mc ms o σ') : mm_Run l X 16 (d + 1) 68 [.ref 0, .int x1, .int x2, .int x3, .int x4, .int x5, .null] [.int s0] (mm_Λ, I, J) mc ms o σ' := by
  refine mm_istore d16_68 (by decide +kernel) ?_
  refine mm_aload_n (v := .ref 0) d16_70 rfl (Or.inl ⟨_, rfl⟩) ?_
  refine mm_getfield (v := .ref 5) d16_71 okc0 fk16_21 rfl rfl (by nofun) ?_
  exact mm_callV0 (as := []) (S := []) d16_74 okm22 ln16_109 im22 se22 rfl ⟨_, _, rfl⟩ rfl rfl (Nat.le_of_ble_eq_true rfl) (Nat.le_of_ble_eq_true rfl) hcall hr
theorem b16_77 {l : Launch} {X : Nat × (Nat → Int32)} {d : Nat} {I : Nat → Nat → Int32} {J : Nat → Nat → Int64} {x1 : Int32} {x2 : Int32} {x3 : Int32} {x4 : Int32} {x5 : Int32} {x6 : Int32} {mc ms : Nat} {o : mm_O} {σ' : mm_S} {I1 : Nat → Nat → Int32} {J1 : Nat → Nat → Int64} (hcall : mm_Call l X 30 d [.ref 8] (mm_Λ, I, J) 0 0 (.inl none) (mm_Λ, I1, J1)) (hr : mm_Run l X 16 (d + 1) 84 [.ref 0, .int x1, .int x2, .int x3, .int x4, .int x5, .int x6] [] (mm_Λ, I1, J1) mc ms o σ') : mm_Run l X 16 (d + 1) 77 [.ref 0, .int x1, .int x2, .int x3, .int x4, .int x5, .int x6] [] (mm_Λ, I, J) mc ms o σ' := by
  refine mm_aload_n (v := .ref 0) d16_77 rfl (Or.inl ⟨_, rfl⟩) ?_
  refine mm_getfield (v := .ref 8) d16_78 okc0 fk16_28 rfl rfl (by nofun) ?_
  exact mm_callV0 (as := []) (S := []) d16_81 okm30 ln16_112 im30 se30 rfl ⟨_, _, rfl⟩ rfl rfl (Nat.le_of_ble_eq_true rfl) (Nat.le_of_ble_eq_true rfl) hcall hr
theorem b16_84 {l : Launch} {X : Nat × (Nat → Int32)} {d : Nat} {I : Nat → Nat → Int32} {J : Nat → Nat → Int64} {x1 : Int32} {x2 : Int32} {x3 : Int32} {x4 : Int32} {x5 : Int32} {x6 : Int32} {mc ms : Nat}  : mm_Run l X 16 (d + 1) 84 [.ref 0, .int x1, .int x2, .int x3, .int x4, .int x5, .int x6] [] (mm_Λ, I, J) mc ms (.inl (some (.int x6))) (mm_Λ, I, J) := by
  refine mm_iload d16_84 rfl ?_
  exact mm_ireturn d16_86 rfl
theorem b17_0 {l : Launch} {X : Nat × (Nat → Int32)} {d : Nat} {I : Nat → Nat → Int32} {J : Nat → Nat → Int64} {x0 : Int32} {mc ms : Nat} {o : mm_O} {σ' : mm_S} (kt : x0 < 0 → mm_Run l X 17 d 10 [.int x0] [] (mm_Λ, I, J) mc ms o σ') (kf : ¬ (x0 < 0) → mm_Run l X 17 d 4 [.int x0] [] (mm_Λ, I, J) mc ms o σ') : mm_Run l X 17 d 0 [.int x0] [] (mm_Λ, I, J) mc ms o σ' := by
  refine mm_iload_n d17_0 rfl ?_
  refine mm_if (tgt := 10) d17_1 (by decide) (fun h => ?_) (fun h => ?_)
  · exact kt h
  · exact kf h
theorem b17_4 {l : Launch} {X : Nat × (Nat → Int32)} {d : Nat} {I : Nat → Nat → Int32} {J : Nat → Nat → Int64} {x0 : Int32} {mc ms : Nat} {o : mm_O} {σ' : mm_S} (kt : x0 < 6 → mm_Run l X 17 d 20 [.int x0] [] (mm_Λ, I, J) mc ms o σ') (kf : ¬ (x0 < 6) → mm_Run l X 17 d 10 [.int x0] [] (mm_Λ, I, J) mc ms o σ') : mm_Run l X 17 d 4 [.int x0] [] (mm_Λ, I, J) mc ms o σ' := by
  refine mm_iload_n d17_4 rfl ?_
  refine mm_bi d17_5 cb6 ?_
  refine mm_icmp (tgt := 20) d17_7 (by decide) (fun h => ?_) (fun h => ?_)
  · exact kt h
  · exact kf h
theorem b17_10 {l : Launch} {X : Nat × (Nat → Int32)} {d : Nat} {I : Nat → Nat → Int32} {J : Nat → Nat → Int64} {x0 : Int32}   : mm_Run l X 17 d 10 [.int x0] [] (mm_Λ, I, J) 1 6 (.inr (mm_ex 0)) (mm_Λ, I, J) := by
  exact thr17_10
theorem b17_20 {l : Launch} {X : Nat × (Nat → Int32)} {d : Nat} {I : Nat → Nat → Int32} {J : Nat → Nat → Int64} {x0 : Int32} {mc ms : Nat}  : mm_Run l X 17 d 20 [.int x0] [] (mm_Λ, I, J) mc ms (.inl none) (mm_Λ, I, J) := by
  exact mm_vreturn d17_20 rfl
theorem b18_0 {l : Launch} {X : Nat × (Nat → Int32)} {d : Nat} {I : Nat → Nat → Int32} {J : Nat → Nat → Int64} {x0 : Int32} {x1 : Int32} {x2 : Int32} {x3 : Int32} {mc ms : Nat} {o : mm_O} {σ' : mm_S} (kt : x0 ≤ 0 → mm_Run l X 18 (d + 1) 8 [.int x0, .int x1, .int x2, .int x3] [] (mm_Λ, I, J) mc ms o σ') (kf : ¬ (x0 ≤ 0) → mm_Run l X 18 (d + 1) 4 [.int x0, .int x1, .int x2, .int x3] [] (mm_Λ, I, J) mc ms o σ') : mm_Run l X 18 (d + 1) 0 [.int x0, .int x1, .int x2, .int x3] [] (mm_Λ, I, J) mc ms o σ' := by
  refine mm_iload_n d18_0 rfl ?_
  refine mm_if (tgt := 8) d18_1 (by decide) (fun h => ?_) (fun h => ?_)
  · exact kt h
  · exact kf h
theorem b18_4 {l : Launch} {X : Nat × (Nat → Int32)} {d : Nat} {I : Nat → Nat → Int32} {J : Nat → Nat → Int64} {x0 : Int32} {x1 : Int32} {x2 : Int32} {x3 : Int32} {mc ms : Nat} {o : mm_O} {σ' : mm_S} {I1 : Nat → Nat → Int32} {J1 : Nat → Nat → Int64} (hcall : mm_Call l X 17 d [.int x1] (mm_Λ, I, J) 0 0 (.inl none) (mm_Λ, I1, J1)) (hr : mm_Run l X 18 (d + 1) 8 [.int x0, .int x1, .int x2, .int x3] [] (mm_Λ, I1, J1) mc ms o σ') : mm_Run l X 18 (d + 1) 4 [.int x0, .int x1, .int x2, .int x3] [] (mm_Λ, I, J) mc ms o σ' := by
  refine mm_iload_n d18_4 rfl ?_
  exact mm_callS0 (as := [.int x1]) (S := []) d18_5 okm17 ln18_81 st17 rfl rfl (Nat.le_of_ble_eq_true rfl) (Nat.le_of_ble_eq_true rfl) hcall hr
theorem b18_4t {l : Launch} {X : Nat × (Nat → Int32)} {d : Nat} {I : Nat → Nat → Int32} {J : Nat → Nat → Int64} {x0 : Int32} {x1 : Int32} {x2 : Int32} {x3 : Int32} {mc ms : Nat} {E : String} {I1 : Nat → Nat → Int32} {J1 : Nat → Nat → Int64} (hcall : mm_Call l X 17 d [.int x1] (mm_Λ, I, J) mc ms (.inr E) (mm_Λ, I1, J1)) : mm_Run l X 18 (d + 1) 4 [.int x0, .int x1, .int x2, .int x3] [] (mm_Λ, I, J) mc ms (.inr E) (mm_Λ, I1, J1) := by
  refine mm_iload_n d18_4 rfl ?_
  exact mm_thrown_out (mm_callST (as := [.int x1]) (S := []) d18_5 okm17 ln18_81 st17 rfl rfl (Nat.le_of_ble_eq_true rfl) (Nat.le_of_ble_eq_true rfl) hcall) rfl
theorem b18_8 {l : Launch} {X : Nat × (Nat → Int32)} {d : Nat} {I : Nat → Nat → Int32} {J : Nat → Nat → Int64} {x0 : Int32} {x1 : Int32} {x2 : Int32} {x3 : Int32} {mc ms : Nat} {o : mm_O} {σ' : mm_S} (kt : x0 ≤ 1 → mm_Run l X 18 (d + 1) 17 [.int x0, .int x1, .int x2, .int x3] [] (mm_Λ, I, J) mc ms o σ') (kf : ¬ (x0 ≤ 1) → mm_Run l X 18 (d + 1) 13 [.int x0, .int x1, .int x2, .int x3] [] (mm_Λ, I, J) mc ms o σ') : mm_Run l X 18 (d + 1) 8 [.int x0, .int x1, .int x2, .int x3] [] (mm_Λ, I, J) mc ms o σ' := by
  refine mm_iload_n d18_8 rfl ?_
  refine mm_ic d18_9 ci1 ?_
  refine mm_icmp (tgt := 17) d18_10 (by decide) (fun h => ?_) (fun h => ?_)
  · exact kt h
  · exact kf h
theorem b18_13 {l : Launch} {X : Nat × (Nat → Int32)} {d : Nat} {I : Nat → Nat → Int32} {J : Nat → Nat → Int64} {x0 : Int32} {x1 : Int32} {x2 : Int32} {x3 : Int32} {mc ms : Nat} {o : mm_O} {σ' : mm_S} {I1 : Nat → Nat → Int32} {J1 : Nat → Nat → Int64} (hcall : mm_Call l X 17 d [.int x2] (mm_Λ, I, J) 0 0 (.inl none) (mm_Λ, I1, J1)) (hr : mm_Run l X 18 (d + 1) 17 [.int x0, .int x1, .int x2, .int x3] [] (mm_Λ, I1, J1) mc ms o σ') : mm_Run l X 18 (d + 1) 13 [.int x0, .int x1, .int x2, .int x3] [] (mm_Λ, I, J) mc ms o σ' := by
  refine mm_iload_n d18_13 rfl ?_
  exact mm_callS0 (as := [.int x2]) (S := []) d18_14 okm17 ln18_81 st17 rfl rfl (Nat.le_of_ble_eq_true rfl) (Nat.le_of_ble_eq_true rfl) hcall hr
theorem b18_13t {l : Launch} {X : Nat × (Nat → Int32)} {d : Nat} {I : Nat → Nat → Int32} {J : Nat → Nat → Int64} {x0 : Int32} {x1 : Int32} {x2 : Int32} {x3 : Int32} {mc ms : Nat} {E : String} {I1 : Nat → Nat → Int32} {J1 : Nat → Nat → Int64} (hcall : mm_Call l X 17 d [.int x2] (mm_Λ, I, J) mc ms (.inr E) (mm_Λ, I1, J1)) : mm_Run l X 18 (d + 1) 13 [.int x0, .int x1, .int x2, .int x3] [] (mm_Λ, I, J) mc ms (.inr E) (mm_Λ, I1, J1) := by
  refine mm_iload_n d18_13 rfl ?_
  exact mm_thrown_out (mm_callST (as := [.int x2]) (S := []) d18_14 okm17 ln18_81 st17 rfl rfl (Nat.le_of_ble_eq_true rfl) (Nat.le_of_ble_eq_true rfl) hcall) rfl
theorem b18_17 {l : Launch} {X : Nat × (Nat → Int32)} {d : Nat} {I : Nat → Nat → Int32} {J : Nat → Nat → Int64} {x0 : Int32} {x1 : Int32} {x2 : Int32} {x3 : Int32} {mc ms : Nat} {o : mm_O} {σ' : mm_S} (kt : x0 ≤ 2 → mm_Run l X 18 (d + 1) 26 [.int x0, .int x1, .int x2, .int x3] [] (mm_Λ, I, J) mc ms o σ') (kf : ¬ (x0 ≤ 2) → mm_Run l X 18 (d + 1) 22 [.int x0, .int x1, .int x2, .int x3] [] (mm_Λ, I, J) mc ms o σ') : mm_Run l X 18 (d + 1) 17 [.int x0, .int x1, .int x2, .int x3] [] (mm_Λ, I, J) mc ms o σ' := by
  refine mm_iload_n d18_17 rfl ?_
  refine mm_ic d18_18 ci2 ?_
  refine mm_icmp (tgt := 26) d18_19 (by decide) (fun h => ?_) (fun h => ?_)
  · exact kt h
  · exact kf h
theorem b18_22 {l : Launch} {X : Nat × (Nat → Int32)} {d : Nat} {I : Nat → Nat → Int32} {J : Nat → Nat → Int64} {x0 : Int32} {x1 : Int32} {x2 : Int32} {x3 : Int32} {mc ms : Nat} {o : mm_O} {σ' : mm_S} {I1 : Nat → Nat → Int32} {J1 : Nat → Nat → Int64} (hcall : mm_Call l X 17 d [.int x3] (mm_Λ, I, J) 0 0 (.inl none) (mm_Λ, I1, J1)) (hr : mm_Run l X 18 (d + 1) 26 [.int x0, .int x1, .int x2, .int x3] [] (mm_Λ, I1, J1) mc ms o σ') : mm_Run l X 18 (d + 1) 22 [.int x0, .int x1, .int x2, .int x3] [] (mm_Λ, I, J) mc ms o σ' := by
  refine mm_iload_n d18_22 rfl ?_
  exact mm_callS0 (as := [.int x3]) (S := []) d18_23 okm17 ln18_81 st17 rfl rfl (Nat.le_of_ble_eq_true rfl) (Nat.le_of_ble_eq_true rfl) hcall hr
theorem b18_22t {l : Launch} {X : Nat × (Nat → Int32)} {d : Nat} {I : Nat → Nat → Int32} {J : Nat → Nat → Int64} {x0 : Int32} {x1 : Int32} {x2 : Int32} {x3 : Int32} {mc ms : Nat} {E : String} {I1 : Nat → Nat → Int32} {J1 : Nat → Nat → Int64} (hcall : mm_Call l X 17 d [.int x3] (mm_Λ, I, J) mc ms (.inr E) (mm_Λ, I1, J1)) : mm_Run l X 18 (d + 1) 22 [.int x0, .int x1, .int x2, .int x3] [] (mm_Λ, I, J) mc ms (.inr E) (mm_Λ, I1, J1) := by
  refine mm_iload_n d18_22 rfl ?_
  exact mm_thrown_out (mm_callST (as := [.int x3]) (S := []) d18_23 okm17 ln18_81 st17 rfl rfl (Nat.le_of_ble_eq_true rfl) (Nat.le_of_ble_eq_true rfl) hcall) rfl
theorem b18_26 {l : Launch} {X : Nat × (Nat → Int32)} {d : Nat} {I : Nat → Nat → Int32} {J : Nat → Nat → Int64} {x0 : Int32} {x1 : Int32} {x2 : Int32} {x3 : Int32} {mc ms : Nat} {o : mm_O} {σ' : mm_S} (kt : 1 ≤ x0 → mm_Run l X 18 (d + 1) 36 [.int x0, .int x1, .int x2, .int x3] [] (mm_Λ, I, J) mc ms o σ') (kf : ¬ (1 ≤ x0) → mm_Run l X 18 (d + 1) 31 [.int x0, .int x1, .int x2, .int x3] [] (mm_Λ, I, J) mc ms o σ') : mm_Run l X 18 (d + 1) 26 [.int x0, .int x1, .int x2, .int x3] [] (mm_Λ, I, J) mc ms o σ' := by
  refine mm_iload_n d18_26 rfl ?_
  refine mm_ic d18_27 ci1 ?_
  refine mm_icmp (tgt := 36) d18_28 (by decide) (fun h => ?_) (fun h => ?_)
  · exact kt h
  · exact kf h
theorem b18_31 {l : Launch} {X : Nat × (Nat → Int32)} {d : Nat} {I : Nat → Nat → Int32} {J : Nat → Nat → Int64} {x0 : Int32} {x1 : Int32} {x2 : Int32} {x3 : Int32} {mc ms : Nat} {o : mm_O} {σ' : mm_S} (kt : ¬ x1 = (-1) → mm_Run l X 18 (d + 1) 56 [.int x0, .int x1, .int x2, .int x3] [] (mm_Λ, I, J) mc ms o σ') (kf : ¬ (¬ x1 = (-1)) → mm_Run l X 18 (d + 1) 36 [.int x0, .int x1, .int x2, .int x3] [] (mm_Λ, I, J) mc ms o σ') : mm_Run l X 18 (d + 1) 31 [.int x0, .int x1, .int x2, .int x3] [] (mm_Λ, I, J) mc ms o σ' := by
  refine mm_iload_n d18_31 rfl ?_
  refine mm_ic d18_32 cim1 ?_
  refine mm_icmp (tgt := 56) d18_33 (by decide) (fun h => ?_) (fun h => ?_)
  · exact kt h
  · exact kf h
theorem b18_36 {l : Launch} {X : Nat × (Nat → Int32)} {d : Nat} {I : Nat → Nat → Int32} {J : Nat → Nat → Int64} {x0 : Int32} {x1 : Int32} {x2 : Int32} {x3 : Int32} {mc ms : Nat} {o : mm_O} {σ' : mm_S} (kt : 2 ≤ x0 → mm_Run l X 18 (d + 1) 46 [.int x0, .int x1, .int x2, .int x3] [] (mm_Λ, I, J) mc ms o σ') (kf : ¬ (2 ≤ x0) → mm_Run l X 18 (d + 1) 41 [.int x0, .int x1, .int x2, .int x3] [] (mm_Λ, I, J) mc ms o σ') : mm_Run l X 18 (d + 1) 36 [.int x0, .int x1, .int x2, .int x3] [] (mm_Λ, I, J) mc ms o σ' := by
  refine mm_iload_n d18_36 rfl ?_
  refine mm_ic d18_37 ci2 ?_
  refine mm_icmp (tgt := 46) d18_38 (by decide) (fun h => ?_) (fun h => ?_)
  · exact kt h
  · exact kf h
theorem b18_41 {l : Launch} {X : Nat × (Nat → Int32)} {d : Nat} {I : Nat → Nat → Int32} {J : Nat → Nat → Int64} {x0 : Int32} {x1 : Int32} {x2 : Int32} {x3 : Int32} {mc ms : Nat} {o : mm_O} {σ' : mm_S} (kt : ¬ x2 = (-1) → mm_Run l X 18 (d + 1) 56 [.int x0, .int x1, .int x2, .int x3] [] (mm_Λ, I, J) mc ms o σ') (kf : ¬ (¬ x2 = (-1)) → mm_Run l X 18 (d + 1) 46 [.int x0, .int x1, .int x2, .int x3] [] (mm_Λ, I, J) mc ms o σ') : mm_Run l X 18 (d + 1) 41 [.int x0, .int x1, .int x2, .int x3] [] (mm_Λ, I, J) mc ms o σ' := by
  refine mm_iload_n d18_41 rfl ?_
  refine mm_ic d18_42 cim1 ?_
  refine mm_icmp (tgt := 56) d18_43 (by decide) (fun h => ?_) (fun h => ?_)
  · exact kt h
  · exact kf h
theorem b18_46 {l : Launch} {X : Nat × (Nat → Int32)} {d : Nat} {I : Nat → Nat → Int32} {J : Nat → Nat → Int64} {x0 : Int32} {x1 : Int32} {x2 : Int32} {x3 : Int32} {mc ms : Nat} {o : mm_O} {σ' : mm_S} (kt : 3 ≤ x0 → mm_Run l X 18 (d + 1) 66 [.int x0, .int x1, .int x2, .int x3] [] (mm_Λ, I, J) mc ms o σ') (kf : ¬ (3 ≤ x0) → mm_Run l X 18 (d + 1) 51 [.int x0, .int x1, .int x2, .int x3] [] (mm_Λ, I, J) mc ms o σ') : mm_Run l X 18 (d + 1) 46 [.int x0, .int x1, .int x2, .int x3] [] (mm_Λ, I, J) mc ms o σ' := by
  refine mm_iload_n d18_46 rfl ?_
  refine mm_ic d18_47 ci3 ?_
  refine mm_icmp (tgt := 66) d18_48 (by decide) (fun h => ?_) (fun h => ?_)
  · exact kt h
  · exact kf h
theorem b18_51 {l : Launch} {X : Nat × (Nat → Int32)} {d : Nat} {I : Nat → Nat → Int32} {J : Nat → Nat → Int64} {x0 : Int32} {x1 : Int32} {x2 : Int32} {x3 : Int32} {mc ms : Nat} {o : mm_O} {σ' : mm_S} (kt : x3 = (-1) → mm_Run l X 18 (d + 1) 66 [.int x0, .int x1, .int x2, .int x3] [] (mm_Λ, I, J) mc ms o σ') (kf : ¬ (x3 = (-1)) → mm_Run l X 18 (d + 1) 56 [.int x0, .int x1, .int x2, .int x3] [] (mm_Λ, I, J) mc ms o σ') : mm_Run l X 18 (d + 1) 51 [.int x0, .int x1, .int x2, .int x3] [] (mm_Λ, I, J) mc ms o σ' := by
  refine mm_iload_n d18_51 rfl ?_
  refine mm_ic d18_52 cim1 ?_
  refine mm_icmp (tgt := 66) d18_53 (by decide) (fun h => ?_) (fun h => ?_)
  · exact kt h
  · exact kf h
theorem b18_56 {l : Launch} {X : Nat × (Nat → Int32)} {d : Nat} {I : Nat → Nat → Int32} {J : Nat → Nat → Int64} {x0 : Int32} {x1 : Int32} {x2 : Int32} {x3 : Int32}   : mm_Run l X 18 (d + 1) 56 [.int x0, .int x1, .int x2, .int x3] [] (mm_Λ, I, J) 1 6 (.inr (mm_ex 1)) (mm_Λ, I, J) := by
  exact thr18_56
theorem b18_66 {l : Launch} {X : Nat × (Nat → Int32)} {d : Nat} {I : Nat → Nat → Int32} {J : Nat → Nat → Int64} {x0 : Int32} {x1 : Int32} {x2 : Int32} {x3 : Int32} {mc ms : Nat}  : mm_Run l X 18 (d + 1) 66 [.int x0, .int x1, .int x2, .int x3] [] (mm_Λ, I, J) mc ms (.inl none) (mm_Λ, I, J) := by
  exact mm_vreturn d18_66 rfl
theorem b19_0 {l : Launch} {X : Nat × (Nat → Int32)} {d : Nat} {I : Nat → Nat → Int32} {J : Nat → Nat → Int64} {x1 : Int32} {mc ms : Nat} (i5 : vp_in x1 6) : mm_Run l X 19 d 0 [.ref 1, .int x1] [] (mm_Λ, I, J) mc ms (.inl (some (.int (I 2 x1.toNatClampNeg)))) (mm_Λ, I, J) := by
  refine mm_aload_n (v := .ref 1) d19_0 rfl (Or.inl ⟨_, rfl⟩) ?_
  refine mm_getfield (v := .ref 2) d19_1 okc1 fk19_9 rfl rfl (by nofun) ?_
  refine mm_iload_n d19_4 rfl ?_
  refine mm_iaload d19_5 rfl i5 ?_
  exact mm_ireturn d19_6 rfl
theorem b20_0 {l : Launch} {X : Nat × (Nat → Int32)} {d : Nat} {I : Nat → Nat → Int32} {J : Nat → Nat → Int64} {x1 : Int32} {x2 : Int32} {x3 : Int32} {x4 : Int32} {x5 : Int32} {mc ms : Nat} {o : mm_O} {σ' : mm_S} (i5 : vp_in x1 6) {r : Int32} {I1 : Nat → Nat → Int32} {J1 : Nat → Nat → Int64} (hcall : mm_Call l X 21 d [.int x1, .int (I 2 x1.toNatClampNeg)] (mm_Λ, I, J) 0 0 (.inl (some (.int r))) (mm_Λ, I1, J1)) (hr : mm_Run l X 20 (d + 1) 14 [.ref 1, .int x1, .int x2, .int x3, .int x4, .int x5, .int (I 2 x1.toNatClampNeg), .null] [.int r] (mm_Λ, I1, J1) mc ms o σ') : mm_Run l X 20 (d + 1) 0 [.ref 1, .int x1, .int x2, .int x3, .int x4, .int x5, .null, .null] [] (mm_Λ, I, J) mc ms o σ' := by
  refine mm_aload_n (v := .ref 1) d20_0 rfl (Or.inl ⟨_, rfl⟩) ?_
  refine mm_getfield (v := .ref 2) d20_1 okc1 fk20_9 rfl rfl (by nofun) ?_
  refine mm_iload_n d20_4 rfl ?_
  refine mm_iaload d20_5 rfl i5 ?_
  refine mm_istore d20_6 (by decide +kernel) ?_
  refine mm_iload_n d20_8 rfl ?_
  refine mm_iload d20_9 rfl ?_
  exact mm_callS0 (as := [.int x1, .int (I 2 x1.toNatClampNeg)]) (S := []) d20_11 okm21 ln20_21 st21 rfl rfl (Nat.le_of_ble_eq_true rfl) (Nat.le_of_ble_eq_true rfl) hcall hr
theorem b20_14 {l : Launch} {X : Nat × (Nat → Int32)} {d : Nat} {I : Nat → Nat → Int32} {J : Nat → Nat → Int64} {x1 : Int32} {x2 : Int32} {x3 : Int32} {x4 : Int32} {x5 : Int32} {x6 : Int32} {s0 : Int32} {mc ms : Nat} (i23 : vp_in s0 24) (i33 : vp_in (s0 * 3) 72) (i46 : vp_in ((s0 * 3) + 1) 72) (i59 : vp_in ((s0 * 3) + 2) 72) (i69 : vp_in x1 6) : mm_Run l X 20 (d + 1) 14 [.ref 1, .int x1, .int x2, .int x3, .int x4, .int x5, .int x6, .null] [.int s0] (mm_Λ, I, J) mc ms (.inl (some (.int x6))) (mm_Λ, (mm_set (mm_set (mm_set (mm_set (mm_set I 3 s0.toNatClampNeg x2) 4 (s0 * 3).toNatClampNeg x3) 4 ((s0 * 3) + 1).toNatClampNeg x4) 4 ((s0 * 3) + 2).toNatClampNeg x5) 2 x1.toNatClampNeg (x6 + 1)), J) := by
  refine mm_istore d20_14 (by decide +kernel) ?_
  refine mm_aload_n (v := .ref 1) d20_16 rfl (Or.inl ⟨_, rfl⟩) ?_
  refine mm_getfield (v := .ref 3) d20_17 okc1 fk20_15 rfl rfl (by nofun) ?_
  refine mm_iload d20_20 rfl ?_
  refine mm_iload_n d20_22 rfl ?_
  refine mm_iastore d20_23 rfl i23 ?_
  refine mm_aload_n (v := .ref 1) d20_24 rfl (Or.inl ⟨_, rfl⟩) ?_
  refine mm_getfield (v := .ref 4) d20_25 okc1 fk20_18 rfl rfl (by nofun) ?_
  refine mm_iload d20_28 rfl ?_
  refine mm_ic d20_30 ci3 ?_
  refine mm_imul d20_31 ?_
  refine mm_iload_n d20_32 rfl ?_
  refine mm_iastore d20_33 rfl i33 ?_
  refine mm_aload_n (v := .ref 1) d20_34 rfl (Or.inl ⟨_, rfl⟩) ?_
  refine mm_getfield (v := .ref 4) d20_35 okc1 fk20_18 rfl rfl (by nofun) ?_
  refine mm_iload d20_38 rfl ?_
  refine mm_ic d20_40 ci3 ?_
  refine mm_imul d20_41 ?_
  refine mm_ic d20_42 ci1 ?_
  refine mm_iadd d20_43 ?_
  refine mm_iload d20_44 rfl ?_
  refine mm_iastore d20_46 rfl i46 ?_
  refine mm_aload_n (v := .ref 1) d20_47 rfl (Or.inl ⟨_, rfl⟩) ?_
  refine mm_getfield (v := .ref 4) d20_48 okc1 fk20_18 rfl rfl (by nofun) ?_
  refine mm_iload d20_51 rfl ?_
  refine mm_ic d20_53 ci3 ?_
  refine mm_imul d20_54 ?_
  refine mm_ic d20_55 ci2 ?_
  refine mm_iadd d20_56 ?_
  refine mm_iload d20_57 rfl ?_
  refine mm_iastore d20_59 rfl i59 ?_
  refine mm_aload_n (v := .ref 1) d20_60 rfl (Or.inl ⟨_, rfl⟩) ?_
  refine mm_getfield (v := .ref 2) d20_61 okc1 fk20_9 rfl rfl (by nofun) ?_
  refine mm_iload_n d20_64 rfl ?_
  refine mm_iload d20_65 rfl ?_
  refine mm_ic d20_67 ci1 ?_
  refine mm_iadd d20_68 ?_
  refine mm_iastore d20_69 rfl i69 ?_
  refine mm_iload d20_70 rfl ?_
  exact mm_ireturn d20_72 rfl
theorem b21_0 {l : Launch} {X : Nat × (Nat → Int32)} {d : Nat} {I : Nat → Nat → Int32} {J : Nat → Nat → Int64} {x0 : Int32} {x1 : Int32} {mc ms : Nat}  : mm_Run l X 21 d 0 [.int x0, .int x1] [] (mm_Λ, I, J) mc ms (.inl (some (.int ((x0 * 4) + x1)))) (mm_Λ, I, J) := by
  refine mm_iload_n d21_0 rfl ?_
  refine mm_ic d21_1 ci4 ?_
  refine mm_imul d21_2 ?_
  refine mm_iload_n d21_3 rfl ?_
  refine mm_iadd d21_4 ?_
  exact mm_ireturn d21_5 rfl
theorem b22_0 {l : Launch} {X : Nat × (Nat → Int32)} {d : Nat} {I : Nat → Nat → Int32} {J : Nat → Nat → Int64}  {mc ms : Nat} {o : mm_O} {σ' : mm_S} (hr : mm_Run l X 22 (d + 1) 2 [.ref 5, .int 0, .null] [] (mm_Λ, I, J) mc ms o σ') : mm_Run l X 22 (d + 1) 0 [.ref 5, .null, .null] [] (mm_Λ, I, J) mc ms o σ' := by
  refine mm_ic d22_0 ci0 ?_
  refine mm_istore_n d22_1 (by decide +kernel) ?_
  exact hr
theorem b22_2 {l : Launch} {X : Nat × (Nat → Int32)} {d : Nat} {I : Nat → Nat → Int32} {J : Nat → Nat → Int64} {x1 : Int32} {mc ms : Nat} {o : mm_O} {σ' : mm_S} (kt : 5 ≤ x1 → mm_Run l X 22 (d + 1) 33 [.ref 5, .int x1, .null] [] (mm_Λ, I, J) mc ms o σ') (kf : ¬ (5 ≤ x1) → mm_Run l X 22 (d + 1) 7 [.ref 5, .int x1, .null] [] (mm_Λ, I, J) mc ms o σ') : mm_Run l X 22 (d + 1) 2 [.ref 5, .int x1, .null] [] (mm_Λ, I, J) mc ms o σ' := by
  refine mm_iload_n d22_2 rfl ?_
  refine mm_ic d22_3 ci5 ?_
  refine mm_icmp (tgt := 33) d22_4 (by decide) (fun h => ?_) (fun h => ?_)
  · exact kt h
  · exact kf h
theorem b22_7 {l : Launch} {X : Nat × (Nat → Int32)} {d : Nat} {I : Nat → Nat → Int32} {J : Nat → Nat → Int64} {x1 : Int32} {mc ms : Nat} {o : mm_O} {σ' : mm_S} (hr : mm_Run l X 22 (d + 1) 9 [.ref 5, .int x1, .int 0] [] (mm_Λ, I, J) mc ms o σ') : mm_Run l X 22 (d + 1) 7 [.ref 5, .int x1, .null] [] (mm_Λ, I, J) mc ms o σ' := by
  refine mm_ic d22_7 ci0 ?_
  refine mm_istore_n d22_8 (by decide +kernel) ?_
  exact hr
theorem b22_9 {l : Launch} {X : Nat × (Nat → Int32)} {d : Nat} {I : Nat → Nat → Int32} {J : Nat → Nat → Int64} {x1 : Int32} {x2 : Int32} {mc ms : Nat} {o : mm_O} {σ' : mm_S} (kt : 6 ≤ x2 → mm_Run l X 22 (d + 1) 27 [.ref 5, .int x1, .int x2] [] (mm_Λ, I, J) mc ms o σ') (kf : ¬ (6 ≤ x2) → mm_Run l X 22 (d + 1) 15 [.ref 5, .int x1, .int x2] [] (mm_Λ, I, J) mc ms o σ') : mm_Run l X 22 (d + 1) 9 [.ref 5, .int x1, .int x2] [] (mm_Λ, I, J) mc ms o σ' := by
  refine mm_iload_n d22_9 rfl ?_
  refine mm_bi d22_10 cb6 ?_
  refine mm_icmp (tgt := 27) d22_12 (by decide) (fun h => ?_) (fun h => ?_)
  · exact kt h
  · exact kf h
theorem b22_15 {l : Launch} {X : Nat × (Nat → Int32)} {d : Nat} {I : Nat → Nat → Int32} {J : Nat → Nat → Int64} {x1 : Int32} {x2 : Int32} {mc ms : Nat} {o : mm_O} {σ' : mm_S} {I1 : Nat → Nat → Int32} {J1 : Nat → Nat → Int64} (hcall : mm_Call l X 23 d [.ref 5, .int x2, .int x1] (mm_Λ, I, J) 0 0 (.inl none) (mm_Λ, I1, J1)) (hr : mm_Run l X 22 (d + 1) 21 [.ref 5, .int x1, .int x2] [] (mm_Λ, I1, J1) mc ms o σ') : mm_Run l X 22 (d + 1) 15 [.ref 5, .int x1, .int x2] [] (mm_Λ, I, J) mc ms o σ' := by
  refine mm_aload_n (v := .ref 5) d22_15 rfl (Or.inl ⟨_, rfl⟩) ?_
  refine mm_iload_n d22_16 rfl ?_
  refine mm_iload_n d22_17 rfl ?_
  exact mm_callV0 (as := [.int x2, .int x1]) (S := []) d22_18 okm23 ln22_22 im23 se23 rfl ⟨_, _, rfl⟩ rfl rfl (Nat.le_of_ble_eq_true rfl) (Nat.le_of_ble_eq_true rfl) hcall hr
theorem b22_21 {l : Launch} {X : Nat × (Nat → Int32)} {d : Nat} {I : Nat → Nat → Int32} {J : Nat → Nat → Int64} {x1 : Int32} {x2 : Int32} {mc ms : Nat} {o : mm_O} {σ' : mm_S} (hr : mm_Run l X 22 (d + 1) 9 [.ref 5, .int x1, .int (x2 + 1)] [] (mm_Λ, I, J) mc ms o σ') : mm_Run l X 22 (d + 1) 21 [.ref 5, .int x1, .int x2] [] (mm_Λ, I, J) mc ms o σ' := by
  refine mm_ii d22_21 ci1 rfl (by decide +kernel) ?_
  refine mm_goto (tgt := 9) d22_24 (by decide) ?_
  exact hr
theorem b22_27 {l : Launch} {X : Nat × (Nat → Int32)} {d : Nat} {I : Nat → Nat → Int32} {J : Nat → Nat → Int64} {x1 : Int32} {x2 : Int32} {mc ms : Nat} {o : mm_O} {σ' : mm_S} (hr : mm_Run l X 22 (d + 1) 2 [.ref 5, .int (x1 + 1), .null] [] (mm_Λ, I, J) mc ms o σ') : mm_Run l X 22 (d + 1) 27 [.ref 5, .int x1, .int x2] [] (mm_Λ, I, J) mc ms o σ' := by
  refine mm_ii d22_27 ci1 rfl (by decide +kernel) ?_
  refine mm_goto (tgt := 2) d22_30 (by decide) ?_
  exact mm_forget hr (by exact ⟨rfl, rfl, trivial⟩)
theorem b22_33 {l : Launch} {X : Nat × (Nat → Int32)} {d : Nat} {I : Nat → Nat → Int32} {J : Nat → Nat → Int64} {x1 : Int32} {mc ms : Nat}  : mm_Run l X 22 (d + 1) 33 [.ref 5, .int x1, .null] [] (mm_Λ, I, J) mc ms (.inl none) (mm_Λ, I, J) := by
  exact mm_vreturn d22_33 rfl
theorem b23_0 {l : Launch} {X : Nat × (Nat → Int32)} {d : Nat} {I : Nat → Nat → Int32} {J : Nat → Nat → Int64} {x1 : Int32} {x2 : Int32} {mc ms : Nat} {o : mm_O} {σ' : mm_S} (hr : mm_Run l X 23 (d + 1) 5 [.ref 5, .int x1, .int x2, .long 0, .null, .int 0, .null, .null, .null] [] (mm_Λ, I, J) mc ms o σ') : mm_Run l X 23 (d + 1) 0 [.ref 5, .int x1, .int x2, .null, .null, .null, .null, .null, .null] [] (mm_Λ, I, J) mc ms o σ' := by
  refine mm_lc d23_0 lc0 ?_
  refine mm_lstore_n d23_1 (by decide +kernel) ?_
  refine mm_ic d23_2 ci0 ?_
  refine mm_istore d23_3 (by decide +kernel) ?_
  exact hr
theorem b23_5 {l : Launch} {X : Nat × (Nat → Int32)} {d : Nat} {I : Nat → Nat → Int32} {J : Nat → Nat → Int64} {x1 : Int32} {x2 : Int32} {x3 : Int64} {x5 : Int32} {mc ms : Nat} {o : mm_O} {σ' : mm_S} {r : Int32} {I1 : Nat → Nat → Int32} {J1 : Nat → Nat → Int64} (hcall : mm_Call l X 19 d [.ref 1, .int x1] (mm_Λ, I, J) 0 0 (.inl (some (.int r))) (mm_Λ, I1, J1)) (hr : mm_Run l X 23 (d + 1) 15 [.ref 5, .int x1, .int x2, .long x3, .null, .int x5, .null, .null, .null] [.int r, .int x5] (mm_Λ, I1, J1) mc ms o σ') : mm_Run l X 23 (d + 1) 5 [.ref 5, .int x1, .int x2, .long x3, .null, .int x5, .null, .null, .null] [] (mm_Λ, I, J) mc ms o σ' := by
  refine mm_iload d23_5 rfl ?_
  refine mm_aload_n (v := .ref 5) d23_7 rfl (Or.inl ⟨_, rfl⟩) ?_
  refine mm_getfield (v := .ref 1) d23_8 okc2 fk23_18 rfl rfl (by nofun) ?_
  refine mm_iload_n d23_11 rfl ?_
  exact mm_callV0 (as := [.int x1]) (S := [.int x5]) d23_12 okm19 ln23_26 im19 se19 rfl ⟨_, _, rfl⟩ rfl rfl (Nat.le_of_ble_eq_true rfl) (Nat.le_of_ble_eq_true rfl) hcall hr
theorem b23_15 {l : Launch} {X : Nat × (Nat → Int32)} {d : Nat} {I : Nat → Nat → Int32} {J : Nat → Nat → Int64} {x1 : Int32} {x2 : Int32} {x3 : Int64} {x5 : Int32} {s0 : Int32} {s1 : Int32} {mc ms : Nat} {o : mm_O} {σ' : mm_S} (kt : s0 ≤ s1 → mm_Run l X 23 (d + 1) 82 [.ref 5, .int x1, .int x2, .long x3, .null, .int x5, .null, .null, .null] [] (mm_Λ, I, J) mc ms o σ') (kf : ¬ (s0 ≤ s1) → mm_Run l X 23 (d + 1) 18 [.ref 5, .int x1, .int x2, .long x3, .null, .int x5, .null, .null, .null] [] (mm_Λ, I, J) mc ms o σ') : mm_Run l X 23 (d + 1) 15 [.ref 5, .int x1, .int x2, .long x3, .null, .int x5, .null, .null, .null] [.int s0, .int s1] (mm_Λ, I, J) mc ms o σ' := by
  refine mm_icmp (tgt := 82) d23_15 (by decide) (fun h => ?_) (fun h => ?_)
  · exact kt h
  · exact kf h
theorem b23_18 {l : Launch} {X : Nat × (Nat → Int32)} {d : Nat} {I : Nat → Nat → Int32} {J : Nat → Nat → Int64} {x1 : Int32} {x2 : Int32} {x3 : Int64} {x5 : Int32} {mc ms : Nat} {o : mm_O} {σ' : mm_S} {r : Int32} {I1 : Nat → Nat → Int32} {J1 : Nat → Nat → Int64} (hcall : mm_Call l X 21 d [.int x1, .int x5] (mm_Λ, I, J) 0 0 (.inl (some (.int r))) (mm_Λ, I1, J1)) (hr : mm_Run l X 23 (d + 1) 24 [.ref 5, .int x1, .int x2, .long x3, .null, .int x5, .null, .null, .null] [.int r] (mm_Λ, I1, J1) mc ms o σ') : mm_Run l X 23 (d + 1) 18 [.ref 5, .int x1, .int x2, .long x3, .null, .int x5, .null, .null, .null] [] (mm_Λ, I, J) mc ms o σ' := by
  refine mm_iload_n d23_18 rfl ?_
  refine mm_iload d23_19 rfl ?_
  exact mm_callS0 (as := [.int x1, .int x5]) (S := []) d23_21 okm21 ln23_32 st21 rfl rfl (Nat.le_of_ble_eq_true rfl) (Nat.le_of_ble_eq_true rfl) hcall hr
theorem b23_24 {l : Launch} {X : Nat × (Nat → Int32)} {d : Nat} {I : Nat → Nat → Int32} {J : Nat → Nat → Int64} {x1 : Int32} {x2 : Int32} {x3 : Int64} {x5 : Int32} {s0 : Int32} {mc ms : Nat} {o : mm_O} {σ' : mm_S} {r : Int32} {I1 : Nat → Nat → Int32} {J1 : Nat → Nat → Int64} (hcall : mm_Call l X 24 d [.ref 1, .int s0] (mm_Λ, I, J) 0 0 (.inl (some (.int r))) (mm_Λ, I1, J1)) (hr : mm_Run l X 23 (d + 1) 35 [.ref 5, .int x1, .int x2, .long x3, .null, .int x5, .int s0, .null, .null] [.int r] (mm_Λ, I1, J1) mc ms o σ') : mm_Run l X 23 (d + 1) 24 [.ref 5, .int x1, .int x2, .long x3, .null, .int x5, .null, .null, .null] [.int s0] (mm_Λ, I, J) mc ms o σ' := by
  refine mm_istore d23_24 (by decide +kernel) ?_
  refine mm_aload_n (v := .ref 5) d23_26 rfl (Or.inl ⟨_, rfl⟩) ?_
  refine mm_getfield (v := .ref 1) d23_27 okc2 fk23_18 rfl rfl (by nofun) ?_
  refine mm_iload d23_30 rfl ?_
  exact mm_callV0 (as := [.int s0]) (S := []) d23_32 okm24 ln23_36 im24 se24 rfl ⟨_, _, rfl⟩ rfl rfl (Nat.le_of_ble_eq_true rfl) (Nat.le_of_ble_eq_true rfl) hcall hr
theorem b23_35 {l : Launch} {X : Nat × (Nat → Int32)} {d : Nat} {I : Nat → Nat → Int32} {J : Nat → Nat → Int64} {x1 : Int32} {x2 : Int32} {x3 : Int64} {x5 : Int32} {x6 : Int32} {s0 : Int32} {mc ms : Nat} {o : mm_O} {σ' : mm_S} (kt : s0 ≤ 0 → mm_Run l X 23 (d + 1) 46 [.ref 5, .int x1, .int x2, .long x3, .null, .int x5, .int x6, .null, .null] [] (mm_Λ, I, J) mc ms o σ') (kf : ¬ (s0 ≤ 0) → mm_Run l X 23 (d + 1) 38 [.ref 5, .int x1, .int x2, .long x3, .null, .int x5, .int x6, .null, .null] [] (mm_Λ, I, J) mc ms o σ') : mm_Run l X 23 (d + 1) 35 [.ref 5, .int x1, .int x2, .long x3, .null, .int x5, .int x6, .null, .null] [.int s0] (mm_Λ, I, J) mc ms o σ' := by
  refine mm_if (tgt := 46) d23_35 (by decide) (fun h => ?_) (fun h => ?_)
  · exact kt h
  · exact kf h
theorem b23_38 {l : Launch} {X : Nat × (Nat → Int32)} {d : Nat} {I : Nat → Nat → Int32} {J : Nat → Nat → Int64} {x1 : Int32} {x2 : Int32} {x3 : Int64} {x5 : Int32} {x6 : Int32} {mc ms : Nat} {o : mm_O} {σ' : mm_S} (kt : ¬ x2 = 0 → mm_Run l X 23 (d + 1) 46 [.ref 5, .int x1, .int x2, .long x3, .null, .int x5, .int x6, .null, .null] [] (mm_Λ, I, J) mc ms o σ') (kf : ¬ (¬ x2 = 0) → mm_Run l X 23 (d + 1) 42 [.ref 5, .int x1, .int x2, .long x3, .null, .int x5, .int x6, .null, .null] [] (mm_Λ, I, J) mc ms o σ') : mm_Run l X 23 (d + 1) 38 [.ref 5, .int x1, .int x2, .long x3, .null, .int x5, .int x6, .null, .null] [] (mm_Λ, I, J) mc ms o σ' := by
  refine mm_iload_n d23_38 rfl ?_
  refine mm_if (tgt := 46) d23_39 (by decide) (fun h => ?_) (fun h => ?_)
  · exact kt h
  · exact kf h
theorem b23_42 {l : Launch} {X : Nat × (Nat → Int32)} {d : Nat} {I : Nat → Nat → Int32} {J : Nat → Nat → Int64} {x1 : Int32} {x2 : Int32} {x3 : Int64} {x5 : Int32} {x6 : Int32} {mc ms : Nat} {o : mm_O} {σ' : mm_S} (hr : mm_Run l X 23 (d + 1) 54 [.ref 5, .int x1, .int x2, .long x3, .null, .int x5, .int x6, .null, .null] [.long 0] (mm_Λ, I, J) mc ms o σ') : mm_Run l X 23 (d + 1) 42 [.ref 5, .int x1, .int x2, .long x3, .null, .int x5, .int x6, .null, .null] [] (mm_Λ, I, J) mc ms o σ' := by
  refine mm_lc d23_42 lc0 ?_
  refine mm_goto (tgt := 54) d23_43 (by decide) ?_
  exact hr
theorem b23_46 {l : Launch} {X : Nat × (Nat → Int32)} {d : Nat} {I : Nat → Nat → Int32} {J : Nat → Nat → Int64} {x1 : Int32} {x2 : Int32} {x3 : Int64} {x5 : Int32} {x6 : Int32} {mc ms : Nat} {o : mm_O} {σ' : mm_S} {r : Int64} {I1 : Nat → Nat → Int32} {J1 : Nat → Nat → Int64} (hcall : mm_Call l X 25 d [.ref 5, .int x6, .int 0, .int x2] (mm_Λ, I, J) 0 0 (.inl (some (.long r))) (mm_Λ, I1, J1)) (hr : mm_Run l X 23 (d + 1) 54 [.ref 5, .int x1, .int x2, .long x3, .null, .int x5, .int x6, .null, .null] [.long r] (mm_Λ, I1, J1) mc ms o σ') : mm_Run l X 23 (d + 1) 46 [.ref 5, .int x1, .int x2, .long x3, .null, .int x5, .int x6, .null, .null] [] (mm_Λ, I, J) mc ms o σ' := by
  refine mm_aload_n (v := .ref 5) d23_46 rfl (Or.inl ⟨_, rfl⟩) ?_
  refine mm_iload d23_47 rfl ?_
  refine mm_ic d23_49 ci0 ?_
  refine mm_iload_n d23_50 rfl ?_
  exact mm_callV0 (as := [.int x6, .int 0, .int x2]) (S := []) d23_51 okm25 ln23_39 im25 se25 rfl ⟨_, _, rfl⟩ rfl rfl (Nat.le_of_ble_eq_true rfl) (Nat.le_of_ble_eq_true rfl) hcall hr
theorem b23_54 {l : Launch} {X : Nat × (Nat → Int32)} {d : Nat} {I : Nat → Nat → Int32} {J : Nat → Nat → Int64} {x1 : Int32} {x2 : Int32} {x3 : Int64} {x5 : Int32} {x6 : Int32} {s0 : Int64} {mc ms : Nat} {o : mm_O} {σ' : mm_S} (i68 : vp_in ((x6 * 5) + x2) 120) {r : Int64} {I1 : Nat → Nat → Int32} {J1 : Nat → Nat → Int64} (hcall : mm_Call l X 29 d [.long x3, .long s0] (mm_Λ, I, (mm_set J 7 ((x6 * 5) + x2).toNatClampNeg s0)) 0 0 (.inl (some (.long r))) (mm_Λ, I1, J1)) (hr : mm_Run l X 23 (d + 1) 75 [.ref 5, .int x1, .int x2, .long x3, .null, .int x5, .int x6, .long s0, .null] [.long r] (mm_Λ, I1, J1) mc ms o σ') : mm_Run l X 23 (d + 1) 54 [.ref 5, .int x1, .int x2, .long x3, .null, .int x5, .int x6, .null, .null] [.long s0] (mm_Λ, I, J) mc ms o σ' := by
  refine mm_lstore d23_54 (by decide +kernel) ?_
  refine mm_aload_n (v := .ref 5) d23_56 rfl (Or.inl ⟨_, rfl⟩) ?_
  refine mm_getfield (v := .ref 7) d23_57 okc2 fk23_15 rfl rfl (by nofun) ?_
  refine mm_iload d23_60 rfl ?_
  refine mm_ic d23_62 ci5 ?_
  refine mm_imul d23_63 ?_
  refine mm_iload_n d23_64 rfl ?_
  refine mm_iadd d23_65 ?_
  refine mm_lload d23_66 rfl ?_
  refine mm_lastore d23_68 rfl i68 ?_
  refine mm_lload_n d23_69 rfl ?_
  refine mm_lload d23_70 rfl ?_
  exact mm_callSN0 (as := [.long x3, .long s0]) (S := []) d23_72 okm29 ln23_43 st29 rfl rfl (Nat.le_of_ble_eq_true rfl) (Nat.le_of_ble_eq_true rfl) hcall hr
theorem b23_75 {l : Launch} {X : Nat × (Nat → Int32)} {d : Nat} {I : Nat → Nat → Int32} {J : Nat → Nat → Int64} {x1 : Int32} {x2 : Int32} {x3 : Int64} {x5 : Int32} {x6 : Int32} {x7 : Int64} {s0 : Int64} {mc ms : Nat} {o : mm_O} {σ' : mm_S} (hr : mm_Run l X 23 (d + 1) 5 [.ref 5, .int x1, .int x2, .long s0, .null, .int (x5 + 1), .null, .null, .null] [] (mm_Λ, I, J) mc ms o σ') : mm_Run l X 23 (d + 1) 75 [.ref 5, .int x1, .int x2, .long x3, .null, .int x5, .int x6, .long x7, .null] [.long s0] (mm_Λ, I, J) mc ms o σ' := by
  refine mm_lstore_n d23_75 (by decide +kernel) ?_
  refine mm_ii d23_76 ci1 rfl (by decide +kernel) ?_
  refine mm_goto (tgt := 5) d23_79 (by decide) ?_
  exact mm_forget hr (by exact ⟨rfl, rfl, rfl, rfl, rfl, trivial⟩)
theorem b23_82 {l : Launch} {X : Nat × (Nat → Int32)} {d : Nat} {I : Nat → Nat → Int32} {J : Nat → Nat → Int64} {x1 : Int32} {x2 : Int32} {x3 : Int64} {x5 : Int32} {mc ms : Nat} (i92 : vp_in ((x1 * 5) + x2) 30) : mm_Run l X 23 (d + 1) 82 [.ref 5, .int x1, .int x2, .long x3, .null, .int x5, .null, .null, .null] [] (mm_Λ, I, J) mc ms (.inl none) (mm_Λ, I, (mm_set J 6 ((x1 * 5) + x2).toNatClampNeg x3)) := by
  refine mm_aload_n (v := .ref 5) d23_82 rfl (Or.inl ⟨_, rfl⟩) ?_
  refine mm_getfield (v := .ref 6) d23_83 okc2 fk23_11 rfl rfl (by nofun) ?_
  refine mm_iload_n d23_86 rfl ?_
  refine mm_ic d23_87 ci5 ?_
  refine mm_imul d23_88 ?_
  refine mm_iload_n d23_89 rfl ?_
  refine mm_iadd d23_90 ?_
  refine mm_lload_n d23_91 rfl ?_
  refine mm_lastore d23_92 rfl i92 ?_
  exact mm_vreturn d23_93 rfl
theorem b24_0 {l : Launch} {X : Nat × (Nat → Int32)} {d : Nat} {I : Nat → Nat → Int32} {J : Nat → Nat → Int64} {x1 : Int32} {mc ms : Nat} (i5 : vp_in x1 24) : mm_Run l X 24 d 0 [.ref 1, .int x1] [] (mm_Λ, I, J) mc ms (.inl (some (.int (I 3 x1.toNatClampNeg)))) (mm_Λ, I, J) := by
  refine mm_aload_n (v := .ref 1) d24_0 rfl (Or.inl ⟨_, rfl⟩) ?_
  refine mm_getfield (v := .ref 3) d24_1 okc1 fk24_15 rfl rfl (by nofun) ?_
  refine mm_iload_n d24_4 rfl ?_
  refine mm_iaload d24_5 rfl i5 ?_
  exact mm_ireturn d24_6 rfl
theorem b25_0 {l : Launch} {X : Nat × (Nat → Int32)} {d : Nat} {I : Nat → Nat → Int32} {J : Nat → Nat → Int64} {x1 : Int32} {x2 : Int32} {x3 : Int32} {mc ms : Nat} {o : mm_O} {σ' : mm_S} (hr : mm_Run l X 25 (d + 1) 6 [.ref 5, .int x1, .int x2, .int x3, .long 1, .null, .int x2] [] (mm_Λ, I, J) mc ms o σ') : mm_Run l X 25 (d + 1) 0 [.ref 5, .int x1, .int x2, .int x3, .null, .null, .null] [] (mm_Λ, I, J) mc ms o σ' := by
  refine mm_lc d25_0 lc1 ?_
  refine mm_lstore d25_1 (by decide +kernel) ?_
  refine mm_iload_n d25_3 rfl ?_
  refine mm_istore d25_4 (by decide +kernel) ?_
  exact hr
theorem b25_6 {l : Launch} {X : Nat × (Nat → Int32)} {d : Nat} {I : Nat → Nat → Int32} {J : Nat → Nat → Int64} {x1 : Int32} {x2 : Int32} {x3 : Int32} {x4 : Int64} {x6 : Int32} {mc ms : Nat} {o : mm_O} {σ' : mm_S} {r : Int32} {I1 : Nat → Nat → Int32} {J1 : Nat → Nat → Int64} (hcall : mm_Call l X 24 d [.ref 1, .int x1] (mm_Λ, I, J) 0 0 (.inl (some (.int r))) (mm_Λ, I1, J1)) (hr : mm_Run l X 25 (d + 1) 16 [.ref 5, .int x1, .int x2, .int x3, .long x4, .null, .int x6] [.int r, .int x6] (mm_Λ, I1, J1) mc ms o σ') : mm_Run l X 25 (d + 1) 6 [.ref 5, .int x1, .int x2, .int x3, .long x4, .null, .int x6] [] (mm_Λ, I, J) mc ms o σ' := by
  refine mm_iload d25_6 rfl ?_
  refine mm_aload_n (v := .ref 5) d25_8 rfl (Or.inl ⟨_, rfl⟩) ?_
  refine mm_getfield (v := .ref 1) d25_9 okc2 fk25_18 rfl rfl (by nofun) ?_
  refine mm_iload_n d25_12 rfl ?_
  exact mm_callV0 (as := [.int x1]) (S := [.int x6]) d25_13 okm24 ln25_36 im24 se24 rfl ⟨_, _, rfl⟩ rfl rfl (Nat.le_of_ble_eq_true rfl) (Nat.le_of_ble_eq_true rfl) hcall hr
theorem b25_16 {l : Launch} {X : Nat × (Nat → Int32)} {d : Nat} {I : Nat → Nat → Int32} {J : Nat → Nat → Int64} {x1 : Int32} {x2 : Int32} {x3 : Int32} {x4 : Int64} {x6 : Int32} {s0 : Int32} {s1 : Int32} {mc ms : Nat} {o : mm_O} {σ' : mm_S} (kt : s0 ≤ s1 → mm_Run l X 25 (d + 1) 49 [.ref 5, .int x1, .int x2, .int x3, .long x4, .null, .int x6] [] (mm_Λ, I, J) mc ms o σ') (kf : ¬ (s0 ≤ s1) → mm_Run l X 25 (d + 1) 19 [.ref 5, .int x1, .int x2, .int x3, .long x4, .null, .int x6] [] (mm_Λ, I, J) mc ms o σ') : mm_Run l X 25 (d + 1) 16 [.ref 5, .int x1, .int x2, .int x3, .long x4, .null, .int x6] [.int s0, .int s1] (mm_Λ, I, J) mc ms o σ' := by
  refine mm_icmp (tgt := 49) d25_16 (by decide) (fun h => ?_) (fun h => ?_)
  · exact kt h
  · exact kf h
theorem b25_19 {l : Launch} {X : Nat × (Nat → Int32)} {d : Nat} {I : Nat → Nat → Int32} {J : Nat → Nat → Int64} {x1 : Int32} {x2 : Int32} {x3 : Int32} {x4 : Int64} {x6 : Int32} {mc ms : Nat} {o : mm_O} {σ' : mm_S} {r : Int32} {I1 : Nat → Nat → Int32} {J1 : Nat → Nat → Int64} (hcall : mm_Call l X 26 d [.ref 1, .int x1, .int x6] (mm_Λ, I, J) 0 0 (.inl (some (.int r))) (mm_Λ, I1, J1)) (hr : mm_Run l X 25 (d + 1) 32 [.ref 5, .int x1, .int x2, .int x3, .long x4, .null, .int x6] [.int r, .ref 5, .long x4] (mm_Λ, I1, J1) mc ms o σ') : mm_Run l X 25 (d + 1) 19 [.ref 5, .int x1, .int x2, .int x3, .long x4, .null, .int x6] [] (mm_Λ, I, J) mc ms o σ' := by
  refine mm_lload d25_19 rfl ?_
  refine mm_aload_n (v := .ref 5) d25_21 rfl (Or.inl ⟨_, rfl⟩) ?_
  refine mm_aload_n (v := .ref 5) d25_22 rfl (Or.inl ⟨_, rfl⟩) ?_
  refine mm_getfield (v := .ref 1) d25_23 okc2 fk25_18 rfl rfl (by nofun) ?_
  refine mm_iload_n d25_26 rfl ?_
  refine mm_iload d25_27 rfl ?_
  exact mm_callV0 (as := [.int x1, .int x6]) (S := [.ref 5, .long x4]) d25_29 okm26 ln25_47 im26 se26 rfl ⟨_, _, rfl⟩ rfl rfl (Nat.le_of_ble_eq_true rfl) (Nat.le_of_ble_eq_true rfl) hcall hr
theorem b25_32 {l : Launch} {X : Nat × (Nat → Int32)} {d : Nat} {I : Nat → Nat → Int32} {J : Nat → Nat → Int64} {x1 : Int32} {x2 : Int32} {x3 : Int32} {x4 : Int64} {x6 : Int32} {s0 : Int32} {s2 : Int64} {mc ms : Nat} {o : mm_O} {σ' : mm_S} {r : Int64} {I1 : Nat → Nat → Int32} {J1 : Nat → Nat → Int64} (hcall : mm_Call l X 27 d [.ref 5, .int s0, .int (x3 - 1)] (mm_Λ, I, J) 0 0 (.inl (some (.long r))) (mm_Λ, I1, J1)) (hr : mm_Run l X 25 (d + 1) 38 [.ref 5, .int x1, .int x2, .int x3, .long x4, .null, .int x6] [.long r, .long s2] (mm_Λ, I1, J1) mc ms o σ') : mm_Run l X 25 (d + 1) 32 [.ref 5, .int x1, .int x2, .int x3, .long x4, .null, .int x6] [.int s0, .ref 5, .long s2] (mm_Λ, I, J) mc ms o σ' := by
  refine mm_iload_n d25_32 rfl ?_
  refine mm_ic d25_33 ci1 ?_
  refine mm_isub d25_34 ?_
  exact mm_callV0 (as := [.int s0, .int (x3 - 1)]) (S := [.long s2]) d25_35 okm27 ln25_50 im27 se27 rfl ⟨_, _, rfl⟩ rfl rfl (Nat.le_of_ble_eq_true rfl) (Nat.le_of_ble_eq_true rfl) hcall hr
theorem b25_38 {l : Launch} {X : Nat × (Nat → Int32)} {d : Nat} {I : Nat → Nat → Int32} {J : Nat → Nat → Int64} {x1 : Int32} {x2 : Int32} {x3 : Int32} {x4 : Int64} {x6 : Int32} {s0 : Int64} {s1 : Int64} {mc ms : Nat} {o : mm_O} {σ' : mm_S} {r : Int64} {I1 : Nat → Nat → Int32} {J1 : Nat → Nat → Int64} (hcall : mm_Call l X 28 d [.long s1, .long s0] (mm_Λ, I, J) 0 0 (.inl (some (.long r))) (mm_Λ, I1, J1)) (hr : mm_Run l X 25 (d + 1) 41 [.ref 5, .int x1, .int x2, .int x3, .long x4, .null, .int x6] [.long r] (mm_Λ, I1, J1) mc ms o σ') : mm_Run l X 25 (d + 1) 38 [.ref 5, .int x1, .int x2, .int x3, .long x4, .null, .int x6] [.long s0, .long s1] (mm_Λ, I, J) mc ms o σ' := by
  exact mm_callSN0 (as := [.long s1, .long s0]) (S := []) d25_38 okm28 ln25_54 st28 rfl rfl (Nat.le_of_ble_eq_true rfl) (Nat.le_of_ble_eq_true rfl) hcall hr
theorem b25_41 {l : Launch} {X : Nat × (Nat → Int32)} {d : Nat} {I : Nat → Nat → Int32} {J : Nat → Nat → Int64} {x1 : Int32} {x2 : Int32} {x3 : Int32} {x4 : Int64} {x6 : Int32} {s0 : Int64} {mc ms : Nat} {o : mm_O} {σ' : mm_S} (hr : mm_Run l X 25 (d + 1) 6 [.ref 5, .int x1, .int x2, .int x3, .long s0, .null, .int (x6 + 1)] [] (mm_Λ, I, J) mc ms o σ') : mm_Run l X 25 (d + 1) 41 [.ref 5, .int x1, .int x2, .int x3, .long x4, .null, .int x6] [.long s0] (mm_Λ, I, J) mc ms o σ' := by
  refine mm_lstore d25_41 (by decide +kernel) ?_
  refine mm_ii d25_43 ci1 rfl (by decide +kernel) ?_
  refine mm_goto (tgt := 6) d25_46 (by decide) ?_
  exact hr
theorem b25_49 {l : Launch} {X : Nat × (Nat → Int32)} {d : Nat} {I : Nat → Nat → Int32} {J : Nat → Nat → Int64} {x1 : Int32} {x2 : Int32} {x3 : Int32} {x4 : Int64} {x6 : Int32} {mc ms : Nat}  : mm_Run l X 25 (d + 1) 49 [.ref 5, .int x1, .int x2, .int x3, .long x4, .null, .int x6] [] (mm_Λ, I, J) mc ms (.inl (some (.long x4))) (mm_Λ, I, J) := by
  refine mm_lload d25_49 rfl ?_
  exact mm_lreturn d25_51 rfl
theorem b26_0 {l : Launch} {X : Nat × (Nat → Int32)} {d : Nat} {I : Nat → Nat → Int32} {J : Nat → Nat → Int64} {x1 : Int32} {x2 : Int32} {mc ms : Nat} (i9 : vp_in ((x1 * 3) + x2) 72) : mm_Run l X 26 d 0 [.ref 1, .int x1, .int x2] [] (mm_Λ, I, J) mc ms (.inl (some (.int (I 4 ((x1 * 3) + x2).toNatClampNeg)))) (mm_Λ, I, J) := by
  refine mm_aload_n (v := .ref 1) d26_0 rfl (Or.inl ⟨_, rfl⟩) ?_
  refine mm_getfield (v := .ref 4) d26_1 okc1 fk26_18 rfl rfl (by nofun) ?_
  refine mm_iload_n d26_4 rfl ?_
  refine mm_ic d26_5 ci3 ?_
  refine mm_imul d26_6 ?_
  refine mm_iload_n d26_7 rfl ?_
  refine mm_iadd d26_8 ?_
  refine mm_iaload d26_9 rfl i9 ?_
  exact mm_ireturn d26_10 rfl
theorem b27_0 {l : Launch} {X : Nat × (Nat → Int32)} {d : Nat} {I : Nat → Nat → Int32} {J : Nat → Nat → Int64} {x1 : Int32} {x2 : Int32} {mc ms : Nat} (i9 : vp_in ((x1 * 5) + x2) 30) : mm_Run l X 27 d 0 [.ref 5, .int x1, .int x2] [] (mm_Λ, I, J) mc ms (.inl (some (.long (J 6 ((x1 * 5) + x2).toNatClampNeg)))) (mm_Λ, I, J) := by
  refine mm_aload_n (v := .ref 5) d27_0 rfl (Or.inl ⟨_, rfl⟩) ?_
  refine mm_getfield (v := .ref 6) d27_1 okc2 fk27_11 rfl rfl (by nofun) ?_
  refine mm_iload_n d27_4 rfl ?_
  refine mm_ic d27_5 ci5 ?_
  refine mm_imul d27_6 ?_
  refine mm_iload_n d27_7 rfl ?_
  refine mm_iadd d27_8 ?_
  refine mm_laload d27_9 rfl i9 ?_
  exact mm_lreturn d27_10 rfl
theorem b28_0 {l : Launch} {X : Nat × (Nat → Int32)} {d : Nat} {I : Nat → Nat → Int32} {J : Nat → Nat → Int64} {x0 : Int64} {x2 : Int64} {mc ms : Nat} {o : mm_O} {σ' : mm_S} (kt : ¬ (lg_cmp x2 0) = 0 → mm_Run l X 28 d 8 [.long x0, .null, .long x2, .null] [] (mm_Λ, I, J) mc ms o σ') (kf : ¬ (¬ (lg_cmp x2 0) = 0) → mm_Run l X 28 d 6 [.long x0, .null, .long x2, .null] [] (mm_Λ, I, J) mc ms o σ') : mm_Run l X 28 d 0 [.long x0, .null, .long x2, .null] [] (mm_Λ, I, J) mc ms o σ' := by
  refine mm_lload_n d28_0 rfl ?_
  refine mm_lc d28_1 lc0 ?_
  refine mm_lcmp d28_2 ?_
  refine mm_if (tgt := 8) d28_3 (by decide) (fun h => ?_) (fun h => ?_)
  · exact kt h
  · exact kf h
theorem b28_6 {l : Launch} {X : Nat × (Nat → Int32)} {d : Nat} {I : Nat → Nat → Int32} {J : Nat → Nat → Int64} {x0 : Int64} {x2 : Int64} {mc ms : Nat}  : mm_Run l X 28 d 6 [.long x0, .null, .long x2, .null] [] (mm_Λ, I, J) mc ms (.inl (some (.long 0))) (mm_Λ, I, J) := by
  refine mm_lc d28_6 lc0 ?_
  exact mm_lreturn d28_7 rfl
theorem b28_8 {l : Launch} {X : Nat × (Nat → Int32)} {d : Nat} {I : Nat → Nat → Int32} {J : Nat → Nat → Int64} {x0 : Int64} {x2 : Int64} {mc ms : Nat} {o : mm_O} {σ' : mm_S} (n13 : ¬ x2 = 0) (kt : (lg_cmp x0 (1000000000000000 / x2)) ≤ 0 → mm_Run l X 28 d 24 [.long x0, .null, .long x2, .null] [] (mm_Λ, I, J) mc ms o σ') (kf : ¬ ((lg_cmp x0 (1000000000000000 / x2)) ≤ 0) → mm_Run l X 28 d 18 [.long x0, .null, .long x2, .null] [] (mm_Λ, I, J) mc ms o σ') : mm_Run l X 28 d 8 [.long x0, .null, .long x2, .null] [] (mm_Λ, I, J) mc ms o σ' := by
  refine mm_lload_n d28_8 rfl ?_
  refine mm_ldc2 d28_9 kl28_238 ?_
  refine mm_lload_n d28_12 rfl ?_
  refine mm_ldiv d28_13 n13 ?_
  refine mm_lcmp d28_14 ?_
  refine mm_if (tgt := 24) d28_15 (by decide) (fun h => ?_) (fun h => ?_)
  · exact kt h
  · exact kf h
theorem b28_18 {l : Launch} {X : Nat × (Nat → Int32)} {d : Nat} {I : Nat → Nat → Int32} {J : Nat → Nat → Int64} {x0 : Int64} {x2 : Int64} {mc ms : Nat} {o : mm_O} {σ' : mm_S} (hr : mm_Run l X 28 d 27 [.long x0, .null, .long x2, .null] [.long 1000000000000000] (mm_Λ, I, J) mc ms o σ') : mm_Run l X 28 d 18 [.long x0, .null, .long x2, .null] [] (mm_Λ, I, J) mc ms o σ' := by
  refine mm_ldc2 d28_18 kl28_238 ?_
  refine mm_goto (tgt := 27) d28_21 (by decide) ?_
  exact hr
theorem b28_24 {l : Launch} {X : Nat × (Nat → Int32)} {d : Nat} {I : Nat → Nat → Int32} {J : Nat → Nat → Int64} {x0 : Int64} {x2 : Int64} {mc ms : Nat} {o : mm_O} {σ' : mm_S} (hr : mm_Run l X 28 d 27 [.long x0, .null, .long x2, .null] [.long (x0 * x2)] (mm_Λ, I, J) mc ms o σ') : mm_Run l X 28 d 24 [.long x0, .null, .long x2, .null] [] (mm_Λ, I, J) mc ms o σ' := by
  refine mm_lload_n d28_24 rfl ?_
  refine mm_lload_n d28_25 rfl ?_
  refine mm_lmul d28_26 ?_
  exact hr
theorem b28_27 {l : Launch} {X : Nat × (Nat → Int32)} {d : Nat} {I : Nat → Nat → Int32} {J : Nat → Nat → Int64} {x0 : Int64} {x2 : Int64} {s0 : Int64} {mc ms : Nat}  : mm_Run l X 28 d 27 [.long x0, .null, .long x2, .null] [.long s0] (mm_Λ, I, J) mc ms (.inl (some (.long s0))) (mm_Λ, I, J) := by
  exact mm_lreturn d28_27 rfl
theorem b29_0 {l : Launch} {X : Nat × (Nat → Int32)} {d : Nat} {I : Nat → Nat → Int32} {J : Nat → Nat → Int64} {x0 : Int64} {x2 : Int64} {mc ms : Nat}  : mm_Run l X 29 d 0 [.long x0, .null, .long x2, .null] [] (mm_Λ, I, J) mc ms (.inl (some (.long (if 1000000000000000 < (x0 + x2) then 1000000000000000 else (x0 + x2))))) (mm_Λ, I, J) := by
  refine mm_lload_n d29_0 rfl ?_
  refine mm_lload_n d29_1 rfl ?_
  refine mm_ladd d29_2 ?_
  refine mm_ldc2 d29_3 kl29_238 ?_
  refine mm_minl d29_6 mi29_240 mw2 mw3 mw4 (Nat.le_of_ble_eq_true rfl) ?_
  exact mm_lreturn d29_9 rfl
theorem b30_0 {l : Launch} {X : Nat × (Nat → Int32)} {d : Nat} {I : Nat → Nat → Int32} {J : Nat → Nat → Int64}  {mc ms : Nat} {o : mm_O} {σ' : mm_S} (hr : mm_Run l X 30 (d + 1) 2 [.ref 8, .int 0, .null] [] (mm_Λ, I, J) mc ms o σ') : mm_Run l X 30 (d + 1) 0 [.ref 8, .null, .null] [] (mm_Λ, I, J) mc ms o σ' := by
  refine mm_ic d30_0 ci0 ?_
  refine mm_istore_n d30_1 (by decide +kernel) ?_
  exact hr
theorem b30_2 {l : Launch} {X : Nat × (Nat → Int32)} {d : Nat} {I : Nat → Nat → Int32} {J : Nat → Nat → Int64} {x1 : Int32} {mc ms : Nat} {o : mm_O} {σ' : mm_S} (kt : 12 ≤ x1 → mm_Run l X 30 (d + 1) 34 [.ref 8, .int x1, .null] [] (mm_Λ, I, J) mc ms o σ') (kf : ¬ (12 ≤ x1) → mm_Run l X 30 (d + 1) 8 [.ref 8, .int x1, .null] [] (mm_Λ, I, J) mc ms o σ') : mm_Run l X 30 (d + 1) 2 [.ref 8, .int x1, .null] [] (mm_Λ, I, J) mc ms o σ' := by
  refine mm_iload_n d30_2 rfl ?_
  refine mm_bi d30_3 cb12 ?_
  refine mm_icmp (tgt := 34) d30_5 (by decide) (fun h => ?_) (fun h => ?_)
  · exact kt h
  · exact kf h
theorem b30_8 {l : Launch} {X : Nat × (Nat → Int32)} {d : Nat} {I : Nat → Nat → Int32} {J : Nat → Nat → Int64} {x1 : Int32} {mc ms : Nat} {o : mm_O} {σ' : mm_S} (hr : mm_Run l X 30 (d + 1) 10 [.ref 8, .int x1, .int 0] [] (mm_Λ, I, J) mc ms o σ') : mm_Run l X 30 (d + 1) 8 [.ref 8, .int x1, .null] [] (mm_Λ, I, J) mc ms o σ' := by
  refine mm_ic d30_8 ci0 ?_
  refine mm_istore_n d30_9 (by decide +kernel) ?_
  exact hr
theorem b30_10 {l : Launch} {X : Nat × (Nat → Int32)} {d : Nat} {I : Nat → Nat → Int32} {J : Nat → Nat → Int64} {x1 : Int32} {x2 : Int32} {mc ms : Nat} {o : mm_O} {σ' : mm_S} (kt : 6 ≤ x2 → mm_Run l X 30 (d + 1) 28 [.ref 8, .int x1, .int x2] [] (mm_Λ, I, J) mc ms o σ') (kf : ¬ (6 ≤ x2) → mm_Run l X 30 (d + 1) 16 [.ref 8, .int x1, .int x2] [] (mm_Λ, I, J) mc ms o σ') : mm_Run l X 30 (d + 1) 10 [.ref 8, .int x1, .int x2] [] (mm_Λ, I, J) mc ms o σ' := by
  refine mm_iload_n d30_10 rfl ?_
  refine mm_bi d30_11 cb6 ?_
  refine mm_icmp (tgt := 28) d30_13 (by decide) (fun h => ?_) (fun h => ?_)
  · exact kt h
  · exact kf h
theorem b30_16 {l : Launch} {X : Nat × (Nat → Int32)} {d : Nat} {I : Nat → Nat → Int32} {J : Nat → Nat → Int64} {x1 : Int32} {x2 : Int32} {mc ms : Nat} {o : mm_O} {σ' : mm_S} {I1 : Nat → Nat → Int32} {J1 : Nat → Nat → Int64} (hcall : mm_Call l X 31 d [.ref 8, .int x2, .int x1] (mm_Λ, I, J) 0 0 (.inl none) (mm_Λ, I1, J1)) (hr : mm_Run l X 30 (d + 1) 22 [.ref 8, .int x1, .int x2] [] (mm_Λ, I1, J1) mc ms o σ') : mm_Run l X 30 (d + 1) 16 [.ref 8, .int x1, .int x2] [] (mm_Λ, I, J) mc ms o σ' := by
  refine mm_aload_n (v := .ref 8) d30_16 rfl (Or.inl ⟨_, rfl⟩) ?_
  refine mm_iload_n d30_17 rfl ?_
  refine mm_iload_n d30_18 rfl ?_
  exact mm_callV0 (as := [.int x2, .int x1]) (S := []) d30_19 okm31 ln30_22 im31 se31 rfl ⟨_, _, rfl⟩ rfl rfl (Nat.le_of_ble_eq_true rfl) (Nat.le_of_ble_eq_true rfl) hcall hr
theorem b30_22 {l : Launch} {X : Nat × (Nat → Int32)} {d : Nat} {I : Nat → Nat → Int32} {J : Nat → Nat → Int64} {x1 : Int32} {x2 : Int32} {mc ms : Nat} {o : mm_O} {σ' : mm_S} (hr : mm_Run l X 30 (d + 1) 10 [.ref 8, .int x1, .int (x2 + 1)] [] (mm_Λ, I, J) mc ms o σ') : mm_Run l X 30 (d + 1) 22 [.ref 8, .int x1, .int x2] [] (mm_Λ, I, J) mc ms o σ' := by
  refine mm_ii d30_22 ci1 rfl (by decide +kernel) ?_
  refine mm_goto (tgt := 10) d30_25 (by decide) ?_
  exact hr
theorem b30_28 {l : Launch} {X : Nat × (Nat → Int32)} {d : Nat} {I : Nat → Nat → Int32} {J : Nat → Nat → Int64} {x1 : Int32} {x2 : Int32} {mc ms : Nat} {o : mm_O} {σ' : mm_S} (hr : mm_Run l X 30 (d + 1) 2 [.ref 8, .int (x1 + 1), .null] [] (mm_Λ, I, J) mc ms o σ') : mm_Run l X 30 (d + 1) 28 [.ref 8, .int x1, .int x2] [] (mm_Λ, I, J) mc ms o σ' := by
  refine mm_ii d30_28 ci1 rfl (by decide +kernel) ?_
  refine mm_goto (tgt := 2) d30_31 (by decide) ?_
  exact mm_forget hr (by exact ⟨rfl, rfl, trivial⟩)
theorem b30_34 {l : Launch} {X : Nat × (Nat → Int32)} {d : Nat} {I : Nat → Nat → Int32} {J : Nat → Nat → Int64} {x1 : Int32} {mc ms : Nat}  : mm_Run l X 30 (d + 1) 34 [.ref 8, .int x1, .null] [] (mm_Λ, I, J) mc ms (.inl none) (mm_Λ, I, J) := by
  exact mm_vreturn d30_34 rfl
theorem b31_0 {l : Launch} {X : Nat × (Nat → Int32)} {d : Nat} {I : Nat → Nat → Int32} {J : Nat → Nat → Int64} {x1 : Int32} {x2 : Int32} {mc ms : Nat} {o : mm_O} {σ' : mm_S} (hr : mm_Run l X 31 (d + 1) 5 [.ref 8, .int x1, .int x2, .long 0, .null, .int 0, .null, .null] [] (mm_Λ, I, J) mc ms o σ') : mm_Run l X 31 (d + 1) 0 [.ref 8, .int x1, .int x2, .null, .null, .null, .null, .null] [] (mm_Λ, I, J) mc ms o σ' := by
  refine mm_lc d31_0 lc0 ?_
  refine mm_lstore_n d31_1 (by decide +kernel) ?_
  refine mm_ic d31_2 ci0 ?_
  refine mm_istore d31_3 (by decide +kernel) ?_
  exact hr
theorem b31_5 {l : Launch} {X : Nat × (Nat → Int32)} {d : Nat} {I : Nat → Nat → Int32} {J : Nat → Nat → Int64} {x1 : Int32} {x2 : Int32} {x3 : Int64} {x5 : Int32} {mc ms : Nat} {o : mm_O} {σ' : mm_S} {r : Int32} {I1 : Nat → Nat → Int32} {J1 : Nat → Nat → Int64} (hcall : mm_Call l X 19 d [.ref 1, .int x1] (mm_Λ, I, J) 0 0 (.inl (some (.int r))) (mm_Λ, I1, J1)) (hr : mm_Run l X 31 (d + 1) 15 [.ref 8, .int x1, .int x2, .long x3, .null, .int x5, .null, .null] [.int r, .int x5] (mm_Λ, I1, J1) mc ms o σ') : mm_Run l X 31 (d + 1) 5 [.ref 8, .int x1, .int x2, .long x3, .null, .int x5, .null, .null] [] (mm_Λ, I, J) mc ms o σ' := by
  refine mm_iload d31_5 rfl ?_
  refine mm_aload_n (v := .ref 8) d31_7 rfl (Or.inl ⟨_, rfl⟩) ?_
  refine mm_getfield (v := .ref 1) d31_8 okc3 fk31_18 rfl rfl (by nofun) ?_
  refine mm_iload_n d31_11 rfl ?_
  exact mm_callV0 (as := [.int x1]) (S := [.int x5]) d31_12 okm19 ln31_26 im19 se19 rfl ⟨_, _, rfl⟩ rfl rfl (Nat.le_of_ble_eq_true rfl) (Nat.le_of_ble_eq_true rfl) hcall hr
theorem b31_15 {l : Launch} {X : Nat × (Nat → Int32)} {d : Nat} {I : Nat → Nat → Int32} {J : Nat → Nat → Int64} {x1 : Int32} {x2 : Int32} {x3 : Int64} {x5 : Int32} {s0 : Int32} {s1 : Int32} {mc ms : Nat} {o : mm_O} {σ' : mm_S} (kt : s0 ≤ s1 → mm_Run l X 31 (d + 1) 91 [.ref 8, .int x1, .int x2, .long x3, .null, .int x5, .null, .null] [] (mm_Λ, I, J) mc ms o σ') (kf : ¬ (s0 ≤ s1) → mm_Run l X 31 (d + 1) 18 [.ref 8, .int x1, .int x2, .long x3, .null, .int x5, .null, .null] [] (mm_Λ, I, J) mc ms o σ') : mm_Run l X 31 (d + 1) 15 [.ref 8, .int x1, .int x2, .long x3, .null, .int x5, .null, .null] [.int s0, .int s1] (mm_Λ, I, J) mc ms o σ' := by
  refine mm_icmp (tgt := 91) d31_15 (by decide) (fun h => ?_) (fun h => ?_)
  · exact kt h
  · exact kf h
theorem b31_18 {l : Launch} {X : Nat × (Nat → Int32)} {d : Nat} {I : Nat → Nat → Int32} {J : Nat → Nat → Int64} {x1 : Int32} {x2 : Int32} {x3 : Int64} {x5 : Int32} {mc ms : Nat} {o : mm_O} {σ' : mm_S} {r : Int32} {I1 : Nat → Nat → Int32} {J1 : Nat → Nat → Int64} (hcall : mm_Call l X 21 d [.int x1, .int x5] (mm_Λ, I, J) 0 0 (.inl (some (.int r))) (mm_Λ, I1, J1)) (hr : mm_Run l X 31 (d + 1) 24 [.ref 8, .int x1, .int x2, .long x3, .null, .int x5, .null, .null] [.int r] (mm_Λ, I1, J1) mc ms o σ') : mm_Run l X 31 (d + 1) 18 [.ref 8, .int x1, .int x2, .long x3, .null, .int x5, .null, .null] [] (mm_Λ, I, J) mc ms o σ' := by
  refine mm_iload_n d31_18 rfl ?_
  refine mm_iload d31_19 rfl ?_
  exact mm_callS0 (as := [.int x1, .int x5]) (S := []) d31_21 okm21 ln31_32 st21 rfl rfl (Nat.le_of_ble_eq_true rfl) (Nat.le_of_ble_eq_true rfl) hcall hr
theorem b31_24 {l : Launch} {X : Nat × (Nat → Int32)} {d : Nat} {I : Nat → Nat → Int32} {J : Nat → Nat → Int64} {x1 : Int32} {x2 : Int32} {x3 : Int64} {x5 : Int32} {s0 : Int32} {mc ms : Nat} {o : mm_O} {σ' : mm_S} {r : Int32} {I1 : Nat → Nat → Int32} {J1 : Nat → Nat → Int64} (hcall : mm_Call l X 24 d [.ref 1, .int s0] (mm_Λ, I, J) 0 0 (.inl (some (.int r))) (mm_Λ, I1, J1)) (hr : mm_Run l X 31 (d + 1) 35 [.ref 8, .int x1, .int x2, .long x3, .null, .int x5, .int s0, .null] [.int r] (mm_Λ, I1, J1) mc ms o σ') : mm_Run l X 31 (d + 1) 24 [.ref 8, .int x1, .int x2, .long x3, .null, .int x5, .null, .null] [.int s0] (mm_Λ, I, J) mc ms o σ' := by
  refine mm_istore d31_24 (by decide +kernel) ?_
  refine mm_aload_n (v := .ref 8) d31_26 rfl (Or.inl ⟨_, rfl⟩) ?_
  refine mm_getfield (v := .ref 1) d31_27 okc3 fk31_18 rfl rfl (by nofun) ?_
  refine mm_iload d31_30 rfl ?_
  exact mm_callV0 (as := [.int s0]) (S := []) d31_32 okm24 ln31_36 im24 se24 rfl ⟨_, _, rfl⟩ rfl rfl (Nat.le_of_ble_eq_true rfl) (Nat.le_of_ble_eq_true rfl) hcall hr
theorem b31_35 {l : Launch} {X : Nat × (Nat → Int32)} {d : Nat} {I : Nat → Nat → Int32} {J : Nat → Nat → Int64} {x1 : Int32} {x2 : Int32} {x3 : Int64} {x5 : Int32} {x6 : Int32} {s0 : Int32} {mc ms : Nat} {o : mm_O} {σ' : mm_S} (hr : mm_Run l X 31 (d + 1) 37 [.ref 8, .int x1, .int x2, .long x3, .null, .int x5, .int x6, .int s0] [] (mm_Λ, I, J) mc ms o σ') : mm_Run l X 31 (d + 1) 35 [.ref 8, .int x1, .int x2, .long x3, .null, .int x5, .int x6, .null] [.int s0] (mm_Λ, I, J) mc ms o σ' := by
  refine mm_istore d31_35 (by decide +kernel) ?_
  exact hr
theorem b31_37 {l : Launch} {X : Nat × (Nat → Int32)} {d : Nat} {I : Nat → Nat → Int32} {J : Nat → Nat → Int64} {x1 : Int32} {x2 : Int32} {x3 : Int64} {x5 : Int32} {x6 : Int32} {x7 : Int32} {mc ms : Nat} {o : mm_O} {σ' : mm_S} (kt : x7 < 0 → mm_Run l X 31 (d + 1) 74 [.ref 8, .int x1, .int x2, .long x3, .null, .int x5, .int x6, .int x7] [] (mm_Λ, I, J) mc ms o σ') (kf : ¬ (x7 < 0) → mm_Run l X 31 (d + 1) 42 [.ref 8, .int x1, .int x2, .long x3, .null, .int x5, .int x6, .int x7] [] (mm_Λ, I, J) mc ms o σ') : mm_Run l X 31 (d + 1) 37 [.ref 8, .int x1, .int x2, .long x3, .null, .int x5, .int x6, .int x7] [] (mm_Λ, I, J) mc ms o σ' := by
  refine mm_iload d31_37 rfl ?_
  refine mm_if (tgt := 74) d31_39 (by decide) (fun h => ?_) (fun h => ?_)
  · exact kt h
  · exact kf h
theorem b31_42 {l : Launch} {X : Nat × (Nat → Int32)} {d : Nat} {I : Nat → Nat → Int32} {J : Nat → Nat → Int64} {x1 : Int32} {x2 : Int32} {x3 : Int64} {x5 : Int32} {x6 : Int32} {x7 : Int32} {mc ms : Nat} {o : mm_O} {σ' : mm_S} {r : Int64} {I1 : Nat → Nat → Int32} {J1 : Nat → Nat → Int64} (hcall : mm_Call l X 32 d [.ref 8, .int x6, .int x7, .int x2] (mm_Λ, I, J) 0 0 (.inl (some (.long r))) (mm_Λ, I1, J1)) (hr : mm_Run l X 31 (d + 1) 67 [.ref 8, .int x1, .int x2, .long x3, .null, .int x5, .int x6, .int x7] [.long r, .int ((((x6 * 4) + x7) * 13) + x2), .ref 10] (mm_Λ, I1, J1) mc ms o σ') : mm_Run l X 31 (d + 1) 42 [.ref 8, .int x1, .int x2, .long x3, .null, .int x5, .int x6, .int x7] [] (mm_Λ, I, J) mc ms o σ' := by
  refine mm_aload_n (v := .ref 8) d31_42 rfl (Or.inl ⟨_, rfl⟩) ?_
  refine mm_getfield (v := .ref 10) d31_43 okc3 fk31_15 rfl rfl (by nofun) ?_
  refine mm_iload d31_46 rfl ?_
  refine mm_ic d31_48 ci4 ?_
  refine mm_imul d31_49 ?_
  refine mm_iload d31_50 rfl ?_
  refine mm_iadd d31_52 ?_
  refine mm_bi d31_53 cb13 ?_
  refine mm_imul d31_55 ?_
  refine mm_iload_n d31_56 rfl ?_
  refine mm_iadd d31_57 ?_
  refine mm_aload_n (v := .ref 8) d31_58 rfl (Or.inl ⟨_, rfl⟩) ?_
  refine mm_iload d31_59 rfl ?_
  refine mm_iload d31_61 rfl ?_
  refine mm_iload_n d31_63 rfl ?_
  exact mm_callV0 (as := [.int x6, .int x7, .int x2]) (S := [.int ((((x6 * 4) + x7) * 13) + x2), .ref 10]) d31_64 okm32 ln31_39 im32 se32 rfl ⟨_, _, rfl⟩ rfl rfl (Nat.le_of_ble_eq_true rfl) (Nat.le_of_ble_eq_true rfl) hcall hr
theorem b31_67 {l : Launch} {X : Nat × (Nat → Int32)} {d : Nat} {I : Nat → Nat → Int32} {J : Nat → Nat → Int64} {x1 : Int32} {x2 : Int32} {x3 : Int64} {x5 : Int32} {x6 : Int32} {x7 : Int32} {s0 : Int64} {s1 : Int32} {mc ms : Nat} {o : mm_O} {σ' : mm_S} (i67 : vp_in s1 1248) (hr : mm_Run l X 31 (d + 1) 37 [.ref 8, .int x1, .int x2, .long x3, .null, .int x5, .int x6, .int (x7 + (-1))] [] (mm_Λ, I, (mm_set J 10 s1.toNatClampNeg s0)) mc ms o σ') : mm_Run l X 31 (d + 1) 67 [.ref 8, .int x1, .int x2, .long x3, .null, .int x5, .int x6, .int x7] [.long s0, .int s1, .ref 10] (mm_Λ, I, J) mc ms o σ' := by
  refine mm_lastore d31_67 rfl i67 ?_
  refine mm_ii d31_68 cim1 rfl (by decide +kernel) ?_
  refine mm_goto (tgt := 37) d31_71 (by decide) ?_
  exact hr
theorem b31_74 {l : Launch} {X : Nat × (Nat → Int32)} {d : Nat} {I : Nat → Nat → Int32} {J : Nat → Nat → Int64} {x1 : Int32} {x2 : Int32} {x3 : Int64} {x5 : Int32} {x6 : Int32} {x7 : Int32} {mc ms : Nat} {o : mm_O} {σ' : mm_S} {r : Int64} {I1 : Nat → Nat → Int32} {J1 : Nat → Nat → Int64} (hcall : mm_Call l X 34 d [.ref 8, .int x6, .int 0, .int x2] (mm_Λ, I, J) 0 0 (.inl (some (.long r))) (mm_Λ, I1, J1)) (hr : mm_Run l X 31 (d + 1) 83 [.ref 8, .int x1, .int x2, .long x3, .null, .int x5, .int x6, .int x7] [.long r, .long x3] (mm_Λ, I1, J1) mc ms o σ') : mm_Run l X 31 (d + 1) 74 [.ref 8, .int x1, .int x2, .long x3, .null, .int x5, .int x6, .int x7] [] (mm_Λ, I, J) mc ms o σ' := by
  refine mm_lload_n d31_74 rfl ?_
  refine mm_aload_n (v := .ref 8) d31_75 rfl (Or.inl ⟨_, rfl⟩) ?_
  refine mm_iload d31_76 rfl ?_
  refine mm_ic d31_78 ci0 ?_
  refine mm_iload_n d31_79 rfl ?_
  exact mm_callV0 (as := [.int x6, .int 0, .int x2]) (S := [.long x3]) d31_80 okm34 ln31_43 im34 se34 rfl ⟨_, _, rfl⟩ rfl rfl (Nat.le_of_ble_eq_true rfl) (Nat.le_of_ble_eq_true rfl) hcall hr
theorem b31_83 {l : Launch} {X : Nat × (Nat → Int32)} {d : Nat} {I : Nat → Nat → Int32} {J : Nat → Nat → Int64} {x1 : Int32} {x2 : Int32} {x3 : Int64} {x5 : Int32} {x6 : Int32} {x7 : Int32} {s0 : Int64} {s1 : Int64} {mc ms : Nat} {o : mm_O} {σ' : mm_S} (hr : mm_Run l X 31 (d + 1) 5 [.ref 8, .int x1, .int x2, .long (s1 + s0), .null, .int (x5 + 1), .null, .null] [] (mm_Λ, I, J) mc ms o σ') : mm_Run l X 31 (d + 1) 83 [.ref 8, .int x1, .int x2, .long x3, .null, .int x5, .int x6, .int x7] [.long s0, .long s1] (mm_Λ, I, J) mc ms o σ' := by
  refine mm_ladd d31_83 ?_
  refine mm_lstore_n d31_84 (by decide +kernel) ?_
  refine mm_ii d31_85 ci1 rfl (by decide +kernel) ?_
  refine mm_goto (tgt := 5) d31_88 (by decide) ?_
  exact mm_forget hr (by exact ⟨rfl, rfl, rfl, rfl, rfl, trivial⟩)
theorem b31_91 {l : Launch} {X : Nat × (Nat → Int32)} {d : Nat} {I : Nat → Nat → Int32} {J : Nat → Nat → Int64} {x1 : Int32} {x2 : Int32} {x3 : Int64} {x5 : Int32} {mc ms : Nat} (i104 : vp_in (((x1 * 13) + x2) + 1) 78) : mm_Run l X 31 (d + 1) 91 [.ref 8, .int x1, .int x2, .long x3, .null, .int x5, .null, .null] [] (mm_Λ, I, J) mc ms (.inl none) (mm_Λ, I, (mm_set J 9 (((x1 * 13) + x2) + 1).toNatClampNeg x3)) := by
  refine mm_aload_n (v := .ref 8) d31_91 rfl (Or.inl ⟨_, rfl⟩) ?_
  refine mm_getfield (v := .ref 9) d31_92 okc3 fk31_11 rfl rfl (by nofun) ?_
  refine mm_iload_n d31_95 rfl ?_
  refine mm_bi d31_96 cb13 ?_
  refine mm_imul d31_98 ?_
  refine mm_iload_n d31_99 rfl ?_
  refine mm_iadd d31_100 ?_
  refine mm_ic d31_101 ci1 ?_
  refine mm_iadd d31_102 ?_
  refine mm_lload_n d31_103 rfl ?_
  refine mm_lastore d31_104 rfl i104 ?_
  exact mm_vreturn d31_105 rfl
theorem b32_0 {l : Launch} {X : Nat × (Nat → Int32)} {d : Nat} {I : Nat → Nat → Int32} {J : Nat → Nat → Int64} {x1 : Int32} {x2 : Int32} {x3 : Int32} {mc ms : Nat} {o : mm_O} {σ' : mm_S} {r : Int32} {I1 : Nat → Nat → Int32} {J1 : Nat → Nat → Int64} (hcall : mm_Call l X 24 d [.ref 1, .int x1] (mm_Λ, I, J) 0 0 (.inl (some (.int r))) (mm_Λ, I1, J1)) (hr : mm_Run l X 32 (d + 1) 9 [.ref 8, .int x1, .int x2, .int x3, .null, .null, .null] [.int r, .int x2] (mm_Λ, I1, J1) mc ms o σ') : mm_Run l X 32 (d + 1) 0 [.ref 8, .int x1, .int x2, .int x3, .null, .null, .null] [] (mm_Λ, I, J) mc ms o σ' := by
  refine mm_iload_n d32_0 rfl ?_
  refine mm_aload_n (v := .ref 8) d32_1 rfl (Or.inl ⟨_, rfl⟩) ?_
  refine mm_getfield (v := .ref 1) d32_2 okc3 fk32_18 rfl rfl (by nofun) ?_
  refine mm_iload_n d32_5 rfl ?_
  exact mm_callV0 (as := [.int x1]) (S := [.int x2]) d32_6 okm24 ln32_36 im24 se24 rfl ⟨_, _, rfl⟩ rfl rfl (Nat.le_of_ble_eq_true rfl) (Nat.le_of_ble_eq_true rfl) hcall hr
theorem b32_9 {l : Launch} {X : Nat × (Nat → Int32)} {d : Nat} {I : Nat → Nat → Int32} {J : Nat → Nat → Int64} {x1 : Int32} {x2 : Int32} {x3 : Int32} {s0 : Int32} {s1 : Int32} {mc ms : Nat} {o : mm_O} {σ' : mm_S} (kt : ¬ s1 = s0 → mm_Run l X 32 (d + 1) 22 [.ref 8, .int x1, .int x2, .int x3, .null, .null, .null] [] (mm_Λ, I, J) mc ms o σ') (kf : ¬ (¬ s1 = s0) → mm_Run l X 32 (d + 1) 12 [.ref 8, .int x1, .int x2, .int x3, .null, .null, .null] [] (mm_Λ, I, J) mc ms o σ') : mm_Run l X 32 (d + 1) 9 [.ref 8, .int x1, .int x2, .int x3, .null, .null, .null] [.int s0, .int s1] (mm_Λ, I, J) mc ms o σ' := by
  refine mm_icmp (tgt := 22) d32_9 (by decide) (fun h => ?_) (fun h => ?_)
  · exact kt h
  · exact kf h
theorem b32_12 {l : Launch} {X : Nat × (Nat → Int32)} {d : Nat} {I : Nat → Nat → Int32} {J : Nat → Nat → Int64} {x1 : Int32} {x2 : Int32} {x3 : Int32} {mc ms : Nat} {o : mm_O} {σ' : mm_S} (kt : ¬ x3 = 0 → mm_Run l X 32 (d + 1) 20 [.ref 8, .int x1, .int x2, .int x3, .null, .null, .null] [] (mm_Λ, I, J) mc ms o σ') (kf : ¬ (¬ x3 = 0) → mm_Run l X 32 (d + 1) 16 [.ref 8, .int x1, .int x2, .int x3, .null, .null, .null] [] (mm_Λ, I, J) mc ms o σ') : mm_Run l X 32 (d + 1) 12 [.ref 8, .int x1, .int x2, .int x3, .null, .null, .null] [] (mm_Λ, I, J) mc ms o σ' := by
  refine mm_iload_n d32_12 rfl ?_
  refine mm_if (tgt := 20) d32_13 (by decide) (fun h => ?_) (fun h => ?_)
  · exact kt h
  · exact kf h
theorem b32_16 {l : Launch} {X : Nat × (Nat → Int32)} {d : Nat} {I : Nat → Nat → Int32} {J : Nat → Nat → Int64} {x1 : Int32} {x2 : Int32} {x3 : Int32} {mc ms : Nat} {o : mm_O} {σ' : mm_S} (hr : mm_Run l X 32 (d + 1) 21 [.ref 8, .int x1, .int x2, .int x3, .null, .null, .null] [.long 1] (mm_Λ, I, J) mc ms o σ') : mm_Run l X 32 (d + 1) 16 [.ref 8, .int x1, .int x2, .int x3, .null, .null, .null] [] (mm_Λ, I, J) mc ms o σ' := by
  refine mm_lc d32_16 lc1 ?_
  refine mm_goto (tgt := 21) d32_17 (by decide) ?_
  exact hr
theorem b32_20 {l : Launch} {X : Nat × (Nat → Int32)} {d : Nat} {I : Nat → Nat → Int32} {J : Nat → Nat → Int64} {x1 : Int32} {x2 : Int32} {x3 : Int32} {mc ms : Nat} {o : mm_O} {σ' : mm_S} (hr : mm_Run l X 32 (d + 1) 21 [.ref 8, .int x1, .int x2, .int x3, .null, .null, .null] [.long 0] (mm_Λ, I, J) mc ms o σ') : mm_Run l X 32 (d + 1) 20 [.ref 8, .int x1, .int x2, .int x3, .null, .null, .null] [] (mm_Λ, I, J) mc ms o σ' := by
  refine mm_lc d32_20 lc0 ?_
  exact hr
theorem b32_21 {l : Launch} {X : Nat × (Nat → Int32)} {d : Nat} {I : Nat → Nat → Int32} {J : Nat → Nat → Int64} {x1 : Int32} {x2 : Int32} {x3 : Int32} {s0 : Int64} {mc ms : Nat}  : mm_Run l X 32 (d + 1) 21 [.ref 8, .int x1, .int x2, .int x3, .null, .null, .null] [.long s0] (mm_Λ, I, J) mc ms (.inl (some (.long s0))) (mm_Λ, I, J) := by
  exact mm_lreturn d32_21 rfl
theorem b32_22 {l : Launch} {X : Nat × (Nat → Int32)} {d : Nat} {I : Nat → Nat → Int32} {J : Nat → Nat → Int64} {x1 : Int32} {x2 : Int32} {x3 : Int32} {mc ms : Nat} {o : mm_O} {σ' : mm_S} (hr : mm_Run l X 32 (d + 1) 28 [.ref 8, .int x1, .int x2, .int x3, .long 0, .null, .int 1] [] (mm_Λ, I, J) mc ms o σ') : mm_Run l X 32 (d + 1) 22 [.ref 8, .int x1, .int x2, .int x3, .null, .null, .null] [] (mm_Λ, I, J) mc ms o σ' := by
  refine mm_lc d32_22 lc0 ?_
  refine mm_lstore d32_23 (by decide +kernel) ?_
  refine mm_ic d32_25 ci1 ?_
  refine mm_istore d32_26 (by decide +kernel) ?_
  exact hr
theorem b32_28 {l : Launch} {X : Nat × (Nat → Int32)} {d : Nat} {I : Nat → Nat → Int32} {J : Nat → Nat → Int64} {x1 : Int32} {x2 : Int32} {x3 : Int32} {x4 : Int64} {x6 : Int32} {mc ms : Nat} {o : mm_O} {σ' : mm_S} (kt : x3 < x6 → mm_Run l X 32 (d + 1) 73 [.ref 8, .int x1, .int x2, .int x3, .long x4, .null, .int x6] [] (mm_Λ, I, J) mc ms o σ') (kf : ¬ (x3 < x6) → mm_Run l X 32 (d + 1) 34 [.ref 8, .int x1, .int x2, .int x3, .long x4, .null, .int x6] [] (mm_Λ, I, J) mc ms o σ') : mm_Run l X 32 (d + 1) 28 [.ref 8, .int x1, .int x2, .int x3, .long x4, .null, .int x6] [] (mm_Λ, I, J) mc ms o σ' := by
  refine mm_iload d32_28 rfl ?_
  refine mm_iload_n d32_30 rfl ?_
  refine mm_icmp (tgt := 73) d32_31 (by decide) (fun h => ?_) (fun h => ?_)
  · exact kt h
  · exact kf h
theorem b32_34 {l : Launch} {X : Nat × (Nat → Int32)} {d : Nat} {I : Nat → Nat → Int32} {J : Nat → Nat → Int64} {x1 : Int32} {x2 : Int32} {x3 : Int32} {x4 : Int64} {x6 : Int32} {mc ms : Nat} {o : mm_O} {σ' : mm_S} {r : Int32} {I1 : Nat → Nat → Int32} {J1 : Nat → Nat → Int64} (hcall : mm_Call l X 26 d [.ref 1, .int x1, .int x2] (mm_Λ, I, J) 0 0 (.inl (some (.int r))) (mm_Λ, I1, J1)) (hr : mm_Run l X 32 (d + 1) 46 [.ref 8, .int x1, .int x2, .int x3, .long x4, .null, .int x6] [.int r, .ref 8, .long x4] (mm_Λ, I1, J1) mc ms o σ') : mm_Run l X 32 (d + 1) 34 [.ref 8, .int x1, .int x2, .int x3, .long x4, .null, .int x6] [] (mm_Λ, I, J) mc ms o σ' := by
  refine mm_lload d32_34 rfl ?_
  refine mm_aload_n (v := .ref 8) d32_36 rfl (Or.inl ⟨_, rfl⟩) ?_
  refine mm_aload_n (v := .ref 8) d32_37 rfl (Or.inl ⟨_, rfl⟩) ?_
  refine mm_getfield (v := .ref 1) d32_38 okc3 fk32_18 rfl rfl (by nofun) ?_
  refine mm_iload_n d32_41 rfl ?_
  refine mm_iload_n d32_42 rfl ?_
  exact mm_callV0 (as := [.int x1, .int x2]) (S := [.ref 8, .long x4]) d32_43 okm26 ln32_46 im26 se26 rfl ⟨_, _, rfl⟩ rfl rfl (Nat.le_of_ble_eq_true rfl) (Nat.le_of_ble_eq_true rfl) hcall hr
theorem b32_46 {l : Launch} {X : Nat × (Nat → Int32)} {d : Nat} {I : Nat → Nat → Int32} {J : Nat → Nat → Int64} {x1 : Int32} {x2 : Int32} {x3 : Int32} {x4 : Int64} {x6 : Int32} {s0 : Int32} {s2 : Int64} {mc ms : Nat} {o : mm_O} {σ' : mm_S} {r : Int64} {I1 : Nat → Nat → Int32} {J1 : Nat → Nat → Int64} (hcall : mm_Call l X 33 d [.ref 8, .int s0, .int x6] (mm_Λ, I, J) 0 0 (.inl (some (.long r))) (mm_Λ, I1, J1)) (hr : mm_Run l X 32 (d + 1) 51 [.ref 8, .int x1, .int x2, .int x3, .long x4, .null, .int x6] [.long r, .long s2] (mm_Λ, I1, J1) mc ms o σ') : mm_Run l X 32 (d + 1) 46 [.ref 8, .int x1, .int x2, .int x3, .long x4, .null, .int x6] [.int s0, .ref 8, .long s2] (mm_Λ, I, J) mc ms o σ' := by
  refine mm_iload d32_46 rfl ?_
  exact mm_callV0 (as := [.int s0, .int x6]) (S := [.long s2]) d32_48 okm33 ln32_49 im33 se33 rfl ⟨_, _, rfl⟩ rfl rfl (Nat.le_of_ble_eq_true rfl) (Nat.le_of_ble_eq_true rfl) hcall hr
theorem b32_51 {l : Launch} {X : Nat × (Nat → Int32)} {d : Nat} {I : Nat → Nat → Int32} {J : Nat → Nat → Int64} {x1 : Int32} {x2 : Int32} {x3 : Int32} {x4 : Int64} {x6 : Int32} {s0 : Int64} {s1 : Int64} {mc ms : Nat} {o : mm_O} {σ' : mm_S} {r : Int64} {I1 : Nat → Nat → Int32} {J1 : Nat → Nat → Int64} (hcall : mm_Call l X 34 d [.ref 8, .int x1, .int (x2 + 1), .int (x3 - x6)] (mm_Λ, I, J) 0 0 (.inl (some (.long r))) (mm_Λ, I1, J1)) (hr : mm_Run l X 32 (d + 1) 63 [.ref 8, .int x1, .int x2, .int x3, .long x4, .null, .int x6] [.long r, .long s0, .long s1] (mm_Λ, I1, J1) mc ms o σ') : mm_Run l X 32 (d + 1) 51 [.ref 8, .int x1, .int x2, .int x3, .long x4, .null, .int x6] [.long s0, .long s1] (mm_Λ, I, J) mc ms o σ' := by
  refine mm_aload_n (v := .ref 8) d32_51 rfl (Or.inl ⟨_, rfl⟩) ?_
  refine mm_iload_n d32_52 rfl ?_
  refine mm_iload_n d32_53 rfl ?_
  refine mm_ic d32_54 ci1 ?_
  refine mm_iadd d32_55 ?_
  refine mm_iload_n d32_56 rfl ?_
  refine mm_iload d32_57 rfl ?_
  refine mm_isub d32_59 ?_
  exact mm_callV0 (as := [.int x1, .int (x2 + 1), .int (x3 - x6)]) (S := [.long s0, .long s1]) d32_60 okm34 ln32_43 im34 se34 rfl ⟨_, _, rfl⟩ rfl rfl (Nat.le_of_ble_eq_true rfl) (Nat.le_of_ble_eq_true rfl) hcall hr
theorem b32_63 {l : Launch} {X : Nat × (Nat → Int32)} {d : Nat} {I : Nat → Nat → Int32} {J : Nat → Nat → Int64} {x1 : Int32} {x2 : Int32} {x3 : Int32} {x4 : Int64} {x6 : Int32} {s0 : Int64} {s1 : Int64} {s2 : Int64} {mc ms : Nat} {o : mm_O} {σ' : mm_S} (hr : mm_Run l X 32 (d + 1) 28 [.ref 8, .int x1, .int x2, .int x3, .long (s2 + (s1 * s0)), .null, .int (x6 + 1)] [] (mm_Λ, I, J) mc ms o σ') : mm_Run l X 32 (d + 1) 63 [.ref 8, .int x1, .int x2, .int x3, .long x4, .null, .int x6] [.long s0, .long s1, .long s2] (mm_Λ, I, J) mc ms o σ' := by
  refine mm_lmul d32_63 ?_
  refine mm_ladd d32_64 ?_
  refine mm_lstore d32_65 (by decide +kernel) ?_
  refine mm_ii d32_67 ci1 rfl (by decide +kernel) ?_
  refine mm_goto (tgt := 28) d32_70 (by decide) ?_
  exact hr
theorem b32_73 {l : Launch} {X : Nat × (Nat → Int32)} {d : Nat} {I : Nat → Nat → Int32} {J : Nat → Nat → Int64} {x1 : Int32} {x2 : Int32} {x3 : Int32} {x4 : Int64} {x6 : Int32} {mc ms : Nat}  : mm_Run l X 32 (d + 1) 73 [.ref 8, .int x1, .int x2, .int x3, .long x4, .null, .int x6] [] (mm_Λ, I, J) mc ms (.inl (some (.long x4))) (mm_Λ, I, J) := by
  refine mm_lload d32_73 rfl ?_
  exact mm_lreturn d32_75 rfl
theorem b33_0 {l : Launch} {X : Nat × (Nat → Int32)} {d : Nat} {I : Nat → Nat → Int32} {J : Nat → Nat → Int64} {x1 : Int32} {x2 : Int32} {mc ms : Nat} (i10 : vp_in ((x1 * 13) + x2) 78) : mm_Run l X 33 d 0 [.ref 8, .int x1, .int x2] [] (mm_Λ, I, J) mc ms (.inl (some (.long (J 9 ((x1 * 13) + x2).toNatClampNeg)))) (mm_Λ, I, J) := by
  refine mm_aload_n (v := .ref 8) d33_0 rfl (Or.inl ⟨_, rfl⟩) ?_
  refine mm_getfield (v := .ref 9) d33_1 okc3 fk33_11 rfl rfl (by nofun) ?_
  refine mm_iload_n d33_4 rfl ?_
  refine mm_bi d33_5 cb13 ?_
  refine mm_imul d33_7 ?_
  refine mm_iload_n d33_8 rfl ?_
  refine mm_iadd d33_9 ?_
  refine mm_laload d33_10 rfl i10 ?_
  exact mm_lreturn d33_11 rfl
theorem b34_0 {l : Launch} {X : Nat × (Nat → Int32)} {d : Nat} {I : Nat → Nat → Int32} {J : Nat → Nat → Int64} {x1 : Int32} {x2 : Int32} {x3 : Int32} {mc ms : Nat} (i14 : vp_in ((((x1 * 4) + x2) * 13) + x3) 1248) : mm_Run l X 34 d 0 [.ref 8, .int x1, .int x2, .int x3] [] (mm_Λ, I, J) mc ms (.inl (some (.long (J 10 ((((x1 * 4) + x2) * 13) + x3).toNatClampNeg)))) (mm_Λ, I, J) := by
  refine mm_aload_n (v := .ref 8) d34_0 rfl (Or.inl ⟨_, rfl⟩) ?_
  refine mm_getfield (v := .ref 10) d34_1 okc3 fk34_15 rfl rfl (by nofun) ?_
  refine mm_iload_n d34_4 rfl ?_
  refine mm_ic d34_5 ci4 ?_
  refine mm_imul d34_6 ?_
  refine mm_iload_n d34_7 rfl ?_
  refine mm_iadd d34_8 ?_
  refine mm_bi d34_9 cb13 ?_
  refine mm_imul d34_11 ?_
  refine mm_iload_n d34_12 rfl ?_
  refine mm_iadd d34_13 ?_
  refine mm_laload d34_14 rfl i14 ?_
  exact mm_lreturn d34_15 rfl
