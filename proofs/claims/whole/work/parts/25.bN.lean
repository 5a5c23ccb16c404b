/-! ===== blocks ===== -/
theorem b120_0 {l : Launch} {X : Nat × (Nat → Int32)} {d : Nat} {I : Nat → Nat → Int32} {J : Nat → Nat → Int64} {x0 : Int32} {mc ms : Nat} {o : mm_O} {σ' : mm_S} (hr : mm_Run l X 120 d 4 [.int x0, .int 0, .int x0] [] (mm_Λ, I, J) mc ms o σ') : mm_Run l X 120 d 0 [.int x0, .null, .null] [] (mm_Λ, I, J) mc ms o σ' := by
  refine mm_ic d120_0 ci0 ?_
  refine mm_istore_n d120_1 (by decide +kernel) ?_
  refine mm_iload_n d120_2 rfl ?_
  refine mm_istore_n d120_3 (by decide +kernel) ?_
  exact hr
theorem b120_4 {l : Launch} {X : Nat × (Nat → Int32)} {d : Nat} {I : Nat → Nat → Int32} {J : Nat → Nat → Int64} {x0 : Int32} {x1 : Int32} {x2 : Int32} {mc ms : Nat} {o : mm_O} {σ' : mm_S} (kt : x2 ≤ 0 → mm_Run l X 120 d 20 [.int x0, .int x1, .int x2] [] (mm_Λ, I, J) mc ms o σ') (kf : ¬ (x2 ≤ 0) → mm_Run l X 120 d 8 [.int x0, .int x1, .int x2] [] (mm_Λ, I, J) mc ms o σ') : mm_Run l X 120 d 4 [.int x0, .int x1, .int x2] [] (mm_Λ, I, J) mc ms o σ' := by
  refine mm_iload_n d120_4 rfl ?_
  refine mm_if (tgt := 20) d120_5 (by decide) (fun h => ?_) (fun h => ?_)
  · exact kt h
  · exact kf h
theorem b120_8 {l : Launch} {X : Nat × (Nat → Int32)} {d : Nat} {I : Nat → Nat → Int32} {J : Nat → Nat → Int64} {x0 : Int32} {x1 : Int32} {x2 : Int32} {mc ms : Nat} {o : mm_O} {σ' : mm_S} (hr : mm_Run l X 120 d 4 [.int x0, .int (x1 + 1), .int ((x2 - 1) / 4)] [] (mm_Λ, I, J) mc ms o σ') : mm_Run l X 120 d 8 [.int x0, .int x1, .int x2] [] (mm_Λ, I, J) mc ms o σ' := by
  refine mm_ii d120_8 ci1 rfl (by decide +kernel) ?_
  refine mm_iload_n d120_11 rfl ?_
  refine mm_ic d120_12 ci1 ?_
  refine mm_isub d120_13 ?_
  refine mm_ic d120_14 ci4 ?_
  refine mm_idiv d120_15 (by decide) ?_
  refine mm_istore_n d120_16 (by decide +kernel) ?_
  refine mm_goto (tgt := 4) d120_17 (by decide) ?_
  exact hr
theorem b120_20 {l : Launch} {X : Nat × (Nat → Int32)} {d : Nat} {I : Nat → Nat → Int32} {J : Nat → Nat → Int64} {x0 : Int32} {x1 : Int32} {x2 : Int32} {mc ms : Nat}  : mm_Run l X 120 d 20 [.int x0, .int x1, .int x2] [] (mm_Λ, I, J) mc ms (.inl (some (.int x1))) (mm_Λ, I, J) := by
  refine mm_iload_n d120_20 rfl ?_
  exact mm_ireturn d120_21 rfl
theorem b121_0 {l : Launch} {X : Nat × (Nat → Int32)} {d : Nat} {I : Nat → Nat → Int32} {J : Nat → Nat → Int64} {x1 : Int32} {x2 : Int32} {x3 : Int32} {x4 : Int64} {mc ms : Nat} {o : mm_O} {σ' : mm_S} (hr : mm_Run l X 121 (d + 1) 7 [.ref 26, .int x1, .int x2, .int x3, .long x4, .null, .int 0, .long x4, .null, .null, .null, .null] [] (mm_Λ, I, J) mc ms o σ') : mm_Run l X 121 (d + 1) 0 [.ref 26, .int x1, .int x2, .int x3, .long x4, .null, .null, .null, .null, .null, .null, .null] [] (mm_Λ, I, J) mc ms o σ' := by
  refine mm_ic d121_0 ci0 ?_
  refine mm_istore d121_1 (by decide +kernel) ?_
  refine mm_lload d121_3 rfl ?_
  refine mm_lstore d121_5 (by decide +kernel) ?_
  exact hr
theorem b121_7 {l : Launch} {X : Nat × (Nat → Int32)} {d : Nat} {I : Nat → Nat → Int32} {J : Nat → Nat → Int64} {x1 : Int32} {x2 : Int32} {x3 : Int32} {x4 : Int64} {x6 : Int32} {x7 : Int64} {mc ms : Nat} {o : mm_O} {σ' : mm_S} {r : Int64} {I1 : Nat → Nat → Int32} {J1 : Nat → Nat → Int64} (hcall : mm_Call l X 106 d [.ref 26, .int x2, .int x6, .int x3] (mm_Λ, I, J) 0 0 (.inl (some (.long r))) (mm_Λ, I1, J1)) (hr : mm_Run l X 121 (d + 1) 17 [.ref 26, .int x1, .int x2, .int x3, .long x4, .null, .int x6, .long x7, .null, .null, .null, .null] [.long r, .long x7] (mm_Λ, I1, J1) mc ms o σ') : mm_Run l X 121 (d + 1) 7 [.ref 26, .int x1, .int x2, .int x3, .long x4, .null, .int x6, .long x7, .null, .null, .null, .null] [] (mm_Λ, I, J) mc ms o σ' := by
  refine mm_lload d121_7 rfl ?_
  refine mm_aload_n (v := .ref 26) d121_9 rfl (Or.inl ⟨_, rfl⟩) ?_
  refine mm_iload_n d121_10 rfl ?_
  refine mm_iload d121_11 rfl ?_
  refine mm_iload_n d121_13 rfl ?_
  exact mm_callV0 (as := [.int x2, .int x6, .int x3]) (S := [.long x7]) d121_14 okm106 ln121_83 im106 se106 rfl ⟨_, _, rfl⟩ rfl rfl (Nat.le_of_ble_eq_true rfl) (Nat.le_of_ble_eq_true rfl) hcall hr
theorem b121_17 {l : Launch} {X : Nat × (Nat → Int32)} {d : Nat} {I : Nat → Nat → Int32} {J : Nat → Nat → Int64} {x1 : Int32} {x2 : Int32} {x3 : Int32} {x4 : Int64} {x6 : Int32} {x7 : Int64} {s0 : Int64} {s1 : Int64} {mc ms : Nat} {o : mm_O} {σ' : mm_S} (kt : (lg_cmp s1 s0) < 0 → mm_Run l X 121 (d + 1) 40 [.ref 26, .int x1, .int x2, .int x3, .long x4, .null, .int x6, .long x7, .null, .null, .null, .null] [] (mm_Λ, I, J) mc ms o σ') (kf : ¬ ((lg_cmp s1 s0) < 0) → mm_Run l X 121 (d + 1) 21 [.ref 26, .int x1, .int x2, .int x3, .long x4, .null, .int x6, .long x7, .null, .null, .null, .null] [] (mm_Λ, I, J) mc ms o σ') : mm_Run l X 121 (d + 1) 17 [.ref 26, .int x1, .int x2, .int x3, .long x4, .null, .int x6, .long x7, .null, .null, .null, .null] [.long s0, .long s1] (mm_Λ, I, J) mc ms o σ' := by
  refine mm_lcmp d121_17 ?_
  refine mm_if (tgt := 40) d121_18 (by decide) (fun h => ?_) (fun h => ?_)
  · exact kt h
  · exact kf h
theorem b121_21 {l : Launch} {X : Nat × (Nat → Int32)} {d : Nat} {I : Nat → Nat → Int32} {J : Nat → Nat → Int64} {x1 : Int32} {x2 : Int32} {x3 : Int32} {x4 : Int64} {x6 : Int32} {x7 : Int64} {mc ms : Nat} {o : mm_O} {σ' : mm_S} {r : Int64} {I1 : Nat → Nat → Int32} {J1 : Nat → Nat → Int64} (hcall : mm_Call l X 106 d [.ref 26, .int x2, .int x6, .int x3] (mm_Λ, I, J) 0 0 (.inl (some (.long r))) (mm_Λ, I1, J1)) (hr : mm_Run l X 121 (d + 1) 31 [.ref 26, .int x1, .int x2, .int x3, .long x4, .null, .int x6, .long x7, .null, .null, .null, .null] [.long r, .long x7] (mm_Λ, I1, J1) mc ms o σ') : mm_Run l X 121 (d + 1) 21 [.ref 26, .int x1, .int x2, .int x3, .long x4, .null, .int x6, .long x7, .null, .null, .null, .null] [] (mm_Λ, I, J) mc ms o σ' := by
  refine mm_lload d121_21 rfl ?_
  refine mm_aload_n (v := .ref 26) d121_23 rfl (Or.inl ⟨_, rfl⟩) ?_
  refine mm_iload_n d121_24 rfl ?_
  refine mm_iload d121_25 rfl ?_
  refine mm_iload_n d121_27 rfl ?_
  exact mm_callV0 (as := [.int x2, .int x6, .int x3]) (S := [.long x7]) d121_28 okm106 ln121_83 im106 se106 rfl ⟨_, _, rfl⟩ rfl rfl (Nat.le_of_ble_eq_true rfl) (Nat.le_of_ble_eq_true rfl) hcall hr
theorem b121_31 {l : Launch} {X : Nat × (Nat → Int32)} {d : Nat} {I : Nat → Nat → Int32} {J : Nat → Nat → Int64} {x1 : Int32} {x2 : Int32} {x3 : Int32} {x4 : Int64} {x6 : Int32} {x7 : Int64} {s0 : Int64} {s1 : Int64} {mc ms : Nat} {o : mm_O} {σ' : mm_S} (hr : mm_Run l X 121 (d + 1) 7 [.ref 26, .int x1, .int x2, .int x3, .long x4, .null, .int (x6 + 1), .long (s1 - s0), .null, .null, .null, .null] [] (mm_Λ, I, J) mc ms o σ') : mm_Run l X 121 (d + 1) 31 [.ref 26, .int x1, .int x2, .int x3, .long x4, .null, .int x6, .long x7, .null, .null, .null, .null] [.long s0, .long s1] (mm_Λ, I, J) mc ms o σ' := by
  refine mm_lsub d121_31 ?_
  refine mm_lstore d121_32 (by decide +kernel) ?_
  refine mm_ii d121_34 ci1 rfl (by decide +kernel) ?_
  refine mm_goto (tgt := 7) d121_37 (by decide) ?_
  exact hr
theorem b121_40 {l : Launch} {X : Nat × (Nat → Int32)} {d : Nat} {I : Nat → Nat → Int32} {J : Nat → Nat → Int64} {x1 : Int32} {x2 : Int32} {x3 : Int32} {x4 : Int64} {x6 : Int32} {x7 : Int64} {mc ms : Nat} {o : mm_O} {σ' : mm_S} (i47 : vp_in x1 256) (i54 : vp_in x1 256) (i65 : vp_in ((4 * x2) + x6) 24) (hr : mm_Run l X 121 (d + 1) 70 [.ref 26, .int x1, .int x2, .int x3, .long x4, .null, .int x6, .long x7, .null, .int ((I 28 ((4 * x2) + x6).toNatClampNeg) - 1), .null, .null] [] (mm_Λ, (mm_set (mm_set I 32 x1.toNatClampNeg x6) 33 x1.toNatClampNeg x2), J) mc ms o σ') : mm_Run l X 121 (d + 1) 40 [.ref 26, .int x1, .int x2, .int x3, .long x4, .null, .int x6, .long x7, .null, .null, .null, .null] [] (mm_Λ, I, J) mc ms o σ' := by
  refine mm_aload_n (v := .ref 26) d121_40 rfl (Or.inl ⟨_, rfl⟩) ?_
  refine mm_getfield (v := .ref 32) d121_41 okc9 fk121_26 rfl rfl (by nofun) ?_
  refine mm_iload_n d121_44 rfl ?_
  refine mm_iload d121_45 rfl ?_
  refine mm_iastore d121_47 rfl i47 ?_
  refine mm_aload_n (v := .ref 26) d121_48 rfl (Or.inl ⟨_, rfl⟩) ?_
  refine mm_getfield (v := .ref 33) d121_49 okc9 fk121_29 rfl rfl (by nofun) ?_
  refine mm_iload_n d121_52 rfl ?_
  refine mm_iload_n d121_53 rfl ?_
  refine mm_iastore d121_54 rfl i54 ?_
  refine mm_aload_n (v := .ref 26) d121_55 rfl (Or.inl ⟨_, rfl⟩) ?_
  refine mm_getfield (v := .ref 28) d121_56 okc9 fk121_13 rfl rfl (by nofun) ?_
  refine mm_ic d121_59 ci4 ?_
  refine mm_iload_n d121_60 rfl ?_
  refine mm_imul d121_61 ?_
  refine mm_iload d121_62 rfl ?_
  refine mm_iadd d121_64 ?_
  refine mm_iaload d121_65 rfl i65 ?_
  refine mm_ic d121_66 ci1 ?_
  refine mm_isub d121_67 ?_
  refine mm_istore d121_68 (by decide +kernel) ?_
  exact hr
theorem b121_70 {l : Launch} {X : Nat × (Nat → Int32)} {d : Nat} {I : Nat → Nat → Int32} {J : Nat → Nat → Int64} {x1 : Int32} {x2 : Int32} {x3 : Int32} {x4 : Int64} {x6 : Int32} {x7 : Int64} {x9 : Int32} {mc ms : Nat} {o : mm_O} {σ' : mm_S} (kt : x9 < 0 → mm_Run l X 121 (d + 1) 135 [.ref 26, .int x1, .int x2, .int x3, .long x4, .null, .int x6, .long x7, .null, .int x9, .null, .null] [] (mm_Λ, I, J) mc ms o σ') (kf : ¬ (x9 < 0) → mm_Run l X 121 (d + 1) 75 [.ref 26, .int x1, .int x2, .int x3, .long x4, .null, .int x6, .long x7, .null, .int x9, .null, .null] [] (mm_Λ, I, J) mc ms o σ') : mm_Run l X 121 (d + 1) 70 [.ref 26, .int x1, .int x2, .int x3, .long x4, .null, .int x6, .long x7, .null, .int x9, .null, .null] [] (mm_Λ, I, J) mc ms o σ' := by
  refine mm_iload d121_70 rfl ?_
  refine mm_if (tgt := 135) d121_72 (by decide) (fun h => ?_) (fun h => ?_)
  · exact kt h
  · exact kf h
theorem b121_75 {l : Launch} {X : Nat × (Nat → Int32)} {d : Nat} {I : Nat → Nat → Int32} {J : Nat → Nat → Int64} {x1 : Int32} {x2 : Int32} {x3 : Int32} {x4 : Int64} {x6 : Int32} {x7 : Int64} {x9 : Int32} {mc ms : Nat} {o : mm_O} {σ' : mm_S} {r : Int32} {I1 : Nat → Nat → Int32} {J1 : Nat → Nat → Int64} (hcall : mm_Call l X 107 d [.ref 26, .int x2, .int x6, .int x9] (mm_Λ, I, J) 0 0 (.inl (some (.int r))) (mm_Λ, I1, J1)) (hr : mm_Run l X 121 (d + 1) 90 [.ref 26, .int x1, .int x2, .int x3, .long x4, .null, .int x6, .long x7, .null, .int x9, .null, .null] [.int r, .int 6, .ref 30] (mm_Λ, I1, J1) mc ms o σ') : mm_Run l X 121 (d + 1) 75 [.ref 26, .int x1, .int x2, .int x3, .long x4, .null, .int x6, .long x7, .null, .int x9, .null, .null] [] (mm_Λ, I, J) mc ms o σ' := by
  refine mm_aload_n (v := .ref 26) d121_75 rfl (Or.inl ⟨_, rfl⟩) ?_
  refine mm_getfield (v := .ref 30) d121_76 okc9 fk121_19 rfl rfl (by nofun) ?_
  refine mm_bi d121_79 cb6 ?_
  refine mm_aload_n (v := .ref 26) d121_81 rfl (Or.inl ⟨_, rfl⟩) ?_
  refine mm_iload_n d121_82 rfl ?_
  refine mm_iload d121_83 rfl ?_
  refine mm_iload d121_85 rfl ?_
  exact mm_callV0 (as := [.int x2, .int x6, .int x9]) (S := [.int 6, .ref 30]) d121_87 okm107 ln121_75 im107 se107 rfl ⟨_, _, rfl⟩ rfl rfl (Nat.le_of_ble_eq_true rfl) (Nat.le_of_ble_eq_true rfl) hcall hr
theorem b121_90 {l : Launch} {X : Nat × (Nat → Int32)} {d : Nat} {I : Nat → Nat → Int32} {J : Nat → Nat → Int64} {x1 : Int32} {x2 : Int32} {x3 : Int32} {x4 : Int64} {x6 : Int32} {x7 : Int64} {x9 : Int32} {s0 : Int32} {s1 : Int32} {mc ms : Nat} {o : mm_O} {σ' : mm_S} (i93 : vp_in ((s1 * s0) + x3) 36) {r : Int32} {I1 : Nat → Nat → Int32} {J1 : Nat → Nat → Int64} (hcall : mm_Call l X 107 d [.ref 26, .int x2, .int x6, .int x9] (mm_Λ, I, J) 0 0 (.inl (some (.int r))) (mm_Λ, I1, J1)) (hr : mm_Run l X 121 (d + 1) 114 [.ref 26, .int x1, .int x2, .int x3, .long x4, .null, .int x6, .long x7, .null, .int x9, .long (J 30 ((s1 * s0) + x3).toNatClampNeg), .null] [.int r, .int (((4 * x1) + x9) + 1), .ref 26] (mm_Λ, I1, J1) mc ms o σ') : mm_Run l X 121 (d + 1) 90 [.ref 26, .int x1, .int x2, .int x3, .long x4, .null, .int x6, .long x7, .null, .int x9, .null, .null] [.int s0, .int s1, .ref 30] (mm_Λ, I, J) mc ms o σ' := by
  refine mm_imul d121_90 ?_
  refine mm_iload_n d121_91 rfl ?_
  refine mm_iadd d121_92 ?_
  refine mm_laload d121_93 rfl i93 ?_
  refine mm_lstore d121_94 (by decide +kernel) ?_
  refine mm_aload_n (v := .ref 26) d121_96 rfl (Or.inl ⟨_, rfl⟩) ?_
  refine mm_ic d121_97 ci4 ?_
  refine mm_iload_n d121_98 rfl ?_
  refine mm_imul d121_99 ?_
  refine mm_iload d121_100 rfl ?_
  refine mm_iadd d121_102 ?_
  refine mm_ic d121_103 ci1 ?_
  refine mm_iadd d121_104 ?_
  refine mm_aload_n (v := .ref 26) d121_105 rfl (Or.inl ⟨_, rfl⟩) ?_
  refine mm_iload_n d121_106 rfl ?_
  refine mm_iload d121_107 rfl ?_
  refine mm_iload d121_109 rfl ?_
  exact mm_callV0 (as := [.int x2, .int x6, .int x9]) (S := [.int (((4 * x1) + x9) + 1), .ref 26]) d121_111 okm107 ln121_75 im107 se107 rfl ⟨_, _, rfl⟩ rfl rfl (Nat.le_of_ble_eq_true rfl) (Nat.le_of_ble_eq_true rfl) hcall hr
theorem b121_114 {l : Launch} {X : Nat × (Nat → Int32)} {d : Nat} {I : Nat → Nat → Int32} {J : Nat → Nat → Int64} {x1 : Int32} {x2 : Int32} {x3 : Int32} {x4 : Int64} {x6 : Int32} {x7 : Int64} {x9 : Int32} {x10 : Int64} {s0 : Int32} {s1 : Int32} {mc ms : Nat} {o : mm_O} {σ' : mm_S} (n118 : ¬ x10 = 0) {I1 : Nat → Nat → Int32} {J1 : Nat → Nat → Int64} (hcall : mm_Call l X 119 d [.ref 26, .int s1, .int s0, .long (x7 - x7 / x10 * x10)] (mm_Λ, I, J) 0 0 (.inl none) (mm_Λ, I1, J1)) (hr : mm_Run l X 121 (d + 1) 122 [.ref 26, .int x1, .int x2, .int x3, .long x4, .null, .int x6, .long x7, .null, .int x9, .long x10, .null] [] (mm_Λ, I1, J1) mc ms o σ') : mm_Run l X 121 (d + 1) 114 [.ref 26, .int x1, .int x2, .int x3, .long x4, .null, .int x6, .long x7, .null, .int x9, .long x10, .null] [.int s0, .int s1, .ref 26] (mm_Λ, I, J) mc ms o σ' := by
  refine mm_lload d121_114 rfl ?_
  refine mm_lload d121_116 rfl ?_
  refine mm_lrem d121_118 n118 ?_
  exact mm_callV0 (as := [.int s1, .int s0, .long (x7 - x7 / x10 * x10)]) (S := []) d121_119 okm119 ln121_117 im119 se119 rfl ⟨_, _, rfl⟩ rfl rfl (Nat.le_of_ble_eq_true rfl) (Nat.le_of_ble_eq_true rfl) hcall hr
theorem b121_122 {l : Launch} {X : Nat × (Nat → Int32)} {d : Nat} {I : Nat → Nat → Int32} {J : Nat → Nat → Int64} {x1 : Int32} {x2 : Int32} {x3 : Int32} {x4 : Int64} {x6 : Int32} {x7 : Int64} {x9 : Int32} {x10 : Int64} {mc ms : Nat} {o : mm_O} {σ' : mm_S} (n126 : ¬ x10 = 0) (hr : mm_Run l X 121 (d + 1) 70 [.ref 26, .int x1, .int x2, .int x3, .long x4, .null, .int x6, .long (x7 / x10), .null, .int (x9 + (-1)), .null, .null] [] (mm_Λ, I, J) mc ms o σ') : mm_Run l X 121 (d + 1) 122 [.ref 26, .int x1, .int x2, .int x3, .long x4, .null, .int x6, .long x7, .null, .int x9, .long x10, .null] [] (mm_Λ, I, J) mc ms o σ' := by
  refine mm_lload d121_122 rfl ?_
  refine mm_lload d121_124 rfl ?_
  refine mm_ldiv d121_126 n126 ?_
  refine mm_lstore d121_127 (by decide +kernel) ?_
  refine mm_ii d121_129 cim1 rfl (by decide +kernel) ?_
  refine mm_goto (tgt := 70) d121_132 (by decide) ?_
  exact mm_forget hr (by exact ⟨rfl, rfl, rfl, rfl, rfl, rfl, rfl, rfl, trivial⟩)
theorem b121_135 {l : Launch} {X : Nat × (Nat → Int32)} {d : Nat} {I : Nat → Nat → Int32} {J : Nat → Nat → Int64} {x1 : Int32} {x2 : Int32} {x3 : Int32} {x4 : Int64} {x6 : Int32} {x7 : Int64} {x9 : Int32} {mc ms : Nat}  : mm_Run l X 121 (d + 1) 135 [.ref 26, .int x1, .int x2, .int x3, .long x4, .null, .int x6, .long x7, .null, .int x9, .null, .null] [] (mm_Λ, I, J) mc ms (.inl none) (mm_Λ, I, J) := by
  exact mm_vreturn d121_135 rfl
theorem b122_0 {l : Launch} {X : Nat × (Nat → Int32)} {d : Nat} {I : Nat → Nat → Int32} {J : Nat → Nat → Int64}  {mc ms : Nat} {o : mm_O} {σ' : mm_S} {I1 : Nat → Nat → Int32} {J1 : Nat → Nat → Int64} (hcall : mm_Call l X 119 d [.ref 26, .int 0, .int 0, .long 0] (mm_Λ, (mm_set (mm_set I 26 8 0) 26 10 0), J) 0 0 (.inl none) (mm_Λ, I1, J1)) (hr : mm_Run l X 122 (d + 1) 17 [.ref 26, .null, .null, .null] [] (mm_Λ, I1, J1) mc ms o σ') : mm_Run l X 122 (d + 1) 0 [.ref 26, .null, .null, .null] [] (mm_Λ, I, J) mc ms o σ' := by
  refine mm_aload_n (v := .ref 26) d122_0 rfl (Or.inl ⟨_, rfl⟩) ?_
  refine mm_ic d122_1 ci0 ?_
  refine mm_putfield d122_2 okc9 fk122_132 fp122_132 rfl rfl rfl ?_
  refine mm_aload_n (v := .ref 26) d122_5 rfl (Or.inl ⟨_, rfl⟩) ?_
  refine mm_ic d122_6 ci0 ?_
  refine mm_putfield d122_7 okc9 fk122_114 fp122_114 rfl rfl rfl ?_
  refine mm_aload_n (v := .ref 26) d122_10 rfl (Or.inl ⟨_, rfl⟩) ?_
  refine mm_ic d122_11 ci0 ?_
  refine mm_ic d122_12 ci0 ?_
  refine mm_lc d122_13 lc0 ?_
  exact mm_callV0 (as := [.int 0, .int 0, .long 0]) (S := []) d122_14 okm119 ln122_117 im119 se119 rfl ⟨_, _, rfl⟩ rfl rfl (Nat.le_of_ble_eq_true rfl) (Nat.le_of_ble_eq_true rfl) hcall hr
theorem b122_17 {l : Launch} {X : Nat × (Nat → Int32)} {d : Nat} {I : Nat → Nat → Int32} {J : Nat → Nat → Int64}  {mc ms : Nat} {o : mm_O} {σ' : mm_S} (kt : (I 26 10) ≤ 0 → mm_Run l X 122 (d + 1) 133 [.ref 26, .null, .null, .null] [] (mm_Λ, I, J) mc ms o σ') (kf : ¬ ((I 26 10) ≤ 0) → mm_Run l X 122 (d + 1) 24 [.ref 26, .null, .null, .null] [] (mm_Λ, I, J) mc ms o σ') : mm_Run l X 122 (d + 1) 17 [.ref 26, .null, .null, .null] [] (mm_Λ, I, J) mc ms o σ' := by
  refine mm_aload_n (v := .ref 26) d122_17 rfl (Or.inl ⟨_, rfl⟩) ?_
  refine mm_getfield (v := .int (I 26 10)) d122_18 okc9 fk122_114 rfl rfl (by nofun) ?_
  refine mm_if (tgt := 133) d122_21 (by decide) (fun h => ?_) (fun h => ?_)
  · exact kt h
  · exact kf h
theorem b122_24 {l : Launch} {X : Nat × (Nat → Int32)} {d : Nat} {I : Nat → Nat → Int32} {J : Nat → Nat → Int64}  {mc ms : Nat} {o : mm_O} {σ' : mm_S} (i42 : vp_in ((I 26 10) - 1) 512) (i57 : vp_in (I 35 ((I 26 10) - 1).toNatClampNeg) 256) (i58 : vp_in (I 26 8) 256) (i74 : vp_in (I 35 ((I 26 10) - 1).toNatClampNeg) 256) (kt : 0 ≤ (I 32 (I 35 ((I 26 10) - 1).toNatClampNeg).toNatClampNeg) → mm_Run l X 122 (d + 1) 82 [.ref 26, .int (I 35 ((I 26 10) - 1).toNatClampNeg), .null, .null] [] (mm_Λ, (mm_set (mm_set (mm_set I 26 10 ((I 26 10) - 1)) 34 (I 26 8).toNatClampNeg (I 32 (I 35 ((I 26 10) - 1).toNatClampNeg).toNatClampNeg)) 26 8 ((I 26 8) + 1)), J) mc ms o σ') (kf : ¬ (0 ≤ (I 32 (I 35 ((I 26 10) - 1).toNatClampNeg).toNatClampNeg)) → mm_Run l X 122 (d + 1) 78 [.ref 26, .int (I 35 ((I 26 10) - 1).toNatClampNeg), .null, .null] [] (mm_Λ, (mm_set (mm_set (mm_set I 26 10 ((I 26 10) - 1)) 34 (I 26 8).toNatClampNeg (I 32 (I 35 ((I 26 10) - 1).toNatClampNeg).toNatClampNeg)) 26 8 ((I 26 8) + 1)), J) mc ms o σ') : mm_Run l X 122 (d + 1) 24 [.ref 26, .null, .null, .null] [] (mm_Λ, I, J) mc ms o σ' := by
  refine mm_aload_n (v := .ref 26) d122_24 rfl (Or.inl ⟨_, rfl⟩) ?_
  refine mm_dup d122_25 rfl ?_
  refine mm_getfield (v := .int (I 26 10)) d122_26 okc9 fk122_114 rfl rfl (by nofun) ?_
  refine mm_ic d122_29 ci1 ?_
  refine mm_isub d122_30 ?_
  refine mm_putfield d122_31 okc9 fk122_114 fp122_114 rfl rfl rfl ?_
  refine mm_aload_n (v := .ref 26) d122_34 rfl (Or.inl ⟨_, rfl⟩) ?_
  refine mm_getfield (v := .ref 35) d122_35 okc9 fk122_35 rfl rfl (by nofun) ?_
  refine mm_aload_n (v := .ref 26) d122_38 rfl (Or.inl ⟨_, rfl⟩) ?_
  refine mm_getfield (v := .int ((I 26 10) - 1)) d122_39 okc9 fk122_114 rfl rfl (by nofun) ?_
  refine mm_iaload d122_42 rfl i42 ?_
  refine mm_istore_n d122_43 (by decide +kernel) ?_
  refine mm_aload_n (v := .ref 26) d122_44 rfl (Or.inl ⟨_, rfl⟩) ?_
  refine mm_getfield (v := .ref 34) d122_45 okc9 fk122_32 rfl rfl (by nofun) ?_
  refine mm_aload_n (v := .ref 26) d122_48 rfl (Or.inl ⟨_, rfl⟩) ?_
  refine mm_getfield (v := .int (I 26 8)) d122_49 okc9 fk122_132 rfl rfl (by nofun) ?_
  refine mm_aload_n (v := .ref 26) d122_52 rfl (Or.inl ⟨_, rfl⟩) ?_
  refine mm_getfield (v := .ref 32) d122_53 okc9 fk122_26 rfl rfl (by nofun) ?_
  refine mm_iload_n d122_56 rfl ?_
  refine mm_iaload d122_57 rfl i57 ?_
  refine mm_iastore d122_58 rfl i58 ?_
  refine mm_aload_n (v := .ref 26) d122_59 rfl (Or.inl ⟨_, rfl⟩) ?_
  refine mm_dup d122_60 rfl ?_
  refine mm_getfield (v := .int (I 26 8)) d122_61 okc9 fk122_132 rfl rfl (by nofun) ?_
  refine mm_ic d122_64 ci1 ?_
  refine mm_iadd d122_65 ?_
  refine mm_putfield d122_66 okc9 fk122_132 fp122_132 rfl rfl rfl ?_
  refine mm_aload_n (v := .ref 26) d122_69 rfl (Or.inl ⟨_, rfl⟩) ?_
  refine mm_getfield (v := .ref 32) d122_70 okc9 fk122_26 rfl rfl (by nofun) ?_
  refine mm_iload_n d122_73 rfl ?_
  refine mm_iaload d122_74 rfl i74 ?_
  refine mm_if (tgt := 82) d122_75 (by decide) (fun h => ?_) (fun h => ?_)
  · exact kt h
  · exact kf h
theorem b122_78 {l : Launch} {X : Nat × (Nat → Int32)} {d : Nat} {I : Nat → Nat → Int32} {J : Nat → Nat → Int64} {x1 : Int32} {mc ms : Nat} {o : mm_O} {σ' : mm_S} (hr : mm_Run l X 122 (d + 1) 102 [.ref 26, .int x1, .null, .null] [.int 0] (mm_Λ, I, J) mc ms o σ') : mm_Run l X 122 (d + 1) 78 [.ref 26, .int x1, .null, .null] [] (mm_Λ, I, J) mc ms o σ' := by
  refine mm_ic d122_78 ci0 ?_
  refine mm_goto (tgt := 102) d122_79 (by decide) ?_
  exact hr
theorem b122_82 {l : Launch} {X : Nat × (Nat → Int32)} {d : Nat} {I : Nat → Nat → Int32} {J : Nat → Nat → Int64} {x1 : Int32} {mc ms : Nat} {o : mm_O} {σ' : mm_S} (i92 : vp_in x1 256) (i99 : vp_in x1 256) (i101 : vp_in ((4 * (I 33 x1.toNatClampNeg)) + (I 32 x1.toNatClampNeg)) 24) (hr : mm_Run l X 122 (d + 1) 102 [.ref 26, .int x1, .null, .null] [.int (I 28 ((4 * (I 33 x1.toNatClampNeg)) + (I 32 x1.toNatClampNeg)).toNatClampNeg)] (mm_Λ, I, J) mc ms o σ') : mm_Run l X 122 (d + 1) 82 [.ref 26, .int x1, .null, .null] [] (mm_Λ, I, J) mc ms o σ' := by
  refine mm_aload_n (v := .ref 26) d122_82 rfl (Or.inl ⟨_, rfl⟩) ?_
  refine mm_getfield (v := .ref 28) d122_83 okc9 fk122_13 rfl rfl (by nofun) ?_
  refine mm_ic d122_86 ci4 ?_
  refine mm_aload_n (v := .ref 26) d122_87 rfl (Or.inl ⟨_, rfl⟩) ?_
  refine mm_getfield (v := .ref 33) d122_88 okc9 fk122_29 rfl rfl (by nofun) ?_
  refine mm_iload_n d122_91 rfl ?_
  refine mm_iaload d122_92 rfl i92 ?_
  refine mm_imul d122_93 ?_
  refine mm_aload_n (v := .ref 26) d122_94 rfl (Or.inl ⟨_, rfl⟩) ?_
  refine mm_getfield (v := .ref 32) d122_95 okc9 fk122_26 rfl rfl (by nofun) ?_
  refine mm_iload_n d122_98 rfl ?_
  refine mm_iaload d122_99 rfl i99 ?_
  refine mm_iadd d122_100 ?_
  refine mm_iaload d122_101 rfl i101 ?_
  exact hr
theorem b122_102 {l : Launch} {X : Nat × (Nat → Int32)} {d : Nat} {I : Nat → Nat → Int32} {J : Nat → Nat → Int64} {x1 : Int32} {s0 : Int32} {mc ms : Nat} {o : mm_O} {σ' : mm_S} (hr : mm_Run l X 122 (d + 1) 107 [.ref 26, .int x1, .int s0, .int (s0 - 1)] [] (mm_Λ, I, J) mc ms o σ') : mm_Run l X 122 (d + 1) 102 [.ref 26, .int x1, .null, .null] [.int s0] (mm_Λ, I, J) mc ms o σ' := by
  refine mm_istore_n d122_102 (by decide +kernel) ?_
  refine mm_iload_n d122_103 rfl ?_
  refine mm_ic d122_104 ci1 ?_
  refine mm_isub d122_105 ?_
  refine mm_istore_n d122_106 (by decide +kernel) ?_
  exact hr
theorem b122_107 {l : Launch} {X : Nat × (Nat → Int32)} {d : Nat} {I : Nat → Nat → Int32} {J : Nat → Nat → Int64} {x1 : Int32} {x2 : Int32} {x3 : Int32} {mc ms : Nat} {o : mm_O} {σ' : mm_S} (kt : x3 < 0 → mm_Run l X 122 (d + 1) 130 [.ref 26, .int x1, .int x2, .int x3] [] (mm_Λ, I, J) mc ms o σ') (kf : ¬ (x3 < 0) → mm_Run l X 122 (d + 1) 111 [.ref 26, .int x1, .int x2, .int x3] [] (mm_Λ, I, J) mc ms o σ') : mm_Run l X 122 (d + 1) 107 [.ref 26, .int x1, .int x2, .int x3] [] (mm_Λ, I, J) mc ms o σ' := by
  refine mm_iload_n d122_107 rfl ?_
  refine mm_if (tgt := 130) d122_108 (by decide) (fun h => ?_) (fun h => ?_)
  · exact kt h
  · exact kf h
theorem b122_111 {l : Launch} {X : Nat × (Nat → Int32)} {d : Nat} {I : Nat → Nat → Int32} {J : Nat → Nat → Int64} {x1 : Int32} {x2 : Int32} {x3 : Int32} {mc ms : Nat} {o : mm_O} {σ' : mm_S} {I1 : Nat → Nat → Int32} {J1 : Nat → Nat → Int64} (hcall : mm_Call l X 119 d [.ref 26, .int (((4 * x1) + x3) + 1), .int 0, .long 0] (mm_Λ, I, J) 0 0 (.inl none) (mm_Λ, I1, J1)) (hr : mm_Run l X 122 (d + 1) 124 [.ref 26, .int x1, .int x2, .int x3] [] (mm_Λ, I1, J1) mc ms o σ') : mm_Run l X 122 (d + 1) 111 [.ref 26, .int x1, .int x2, .int x3] [] (mm_Λ, I, J) mc ms o σ' := by
  refine mm_aload_n (v := .ref 26) d122_111 rfl (Or.inl ⟨_, rfl⟩) ?_
  refine mm_ic d122_112 ci4 ?_
  refine mm_iload_n d122_113 rfl ?_
  refine mm_imul d122_114 ?_
  refine mm_iload_n d122_115 rfl ?_
  refine mm_iadd d122_116 ?_
  refine mm_ic d122_117 ci1 ?_
  refine mm_iadd d122_118 ?_
  refine mm_ic d122_119 ci0 ?_
  refine mm_lc d122_120 lc0 ?_
  exact mm_callV0 (as := [.int (((4 * x1) + x3) + 1), .int 0, .long 0]) (S := []) d122_121 okm119 ln122_117 im119 se119 rfl ⟨_, _, rfl⟩ rfl rfl (Nat.le_of_ble_eq_true rfl) (Nat.le_of_ble_eq_true rfl) hcall hr
theorem b122_124 {l : Launch} {X : Nat × (Nat → Int32)} {d : Nat} {I : Nat → Nat → Int32} {J : Nat → Nat → Int64} {x1 : Int32} {x2 : Int32} {x3 : Int32} {mc ms : Nat} {o : mm_O} {σ' : mm_S} (hr : mm_Run l X 122 (d + 1) 107 [.ref 26, .int x1, .int x2, .int (x3 + (-1))] [] (mm_Λ, I, J) mc ms o σ') : mm_Run l X 122 (d + 1) 124 [.ref 26, .int x1, .int x2, .int x3] [] (mm_Λ, I, J) mc ms o σ' := by
  refine mm_ii d122_124 cim1 rfl (by decide +kernel) ?_
  refine mm_goto (tgt := 107) d122_127 (by decide) ?_
  exact hr
theorem b122_130 {l : Launch} {X : Nat × (Nat → Int32)} {d : Nat} {I : Nat → Nat → Int32} {J : Nat → Nat → Int64} {x1 : Int32} {x2 : Int32} {x3 : Int32} {mc ms : Nat} {o : mm_O} {σ' : mm_S} (hr : mm_Run l X 122 (d + 1) 17 [.ref 26, .null, .null, .null] [] (mm_Λ, I, J) mc ms o σ') : mm_Run l X 122 (d + 1) 130 [.ref 26, .int x1, .int x2, .int x3] [] (mm_Λ, I, J) mc ms o σ' := by
  refine mm_goto (tgt := 17) d122_130 (by decide) ?_
  exact mm_forget hr (by exact ⟨rfl, trivial⟩)
theorem b122_133 {l : Launch} {X : Nat × (Nat → Int32)} {d : Nat} {I : Nat → Nat → Int32} {J : Nat → Nat → Int64}  {mc ms : Nat}  : mm_Run l X 122 (d + 1) 133 [.ref 26, .null, .null, .null] [] (mm_Λ, I, J) mc ms (.inl none) (mm_Λ, I, J) := by
  exact mm_vreturn d122_133 rfl
theorem b123_0 {l : Launch} {X : Nat × (Nat → Int32)} {d : Nat} {I : Nat → Nat → Int32} {J : Nat → Nat → Int64} {x1 : Int32} {x2 : Int32} {x3 : Int64} {mc ms : Nat} {o : mm_O} {σ' : mm_S} {r : Int32} {I1 : Nat → Nat → Int32} {J1 : Nat → Nat → Int64} (hcall : mm_Call l X 111 d [.int x1, .int x2] (mm_Λ, I, J) 0 0 (.inl (some (.int r))) (mm_Λ, I1, J1)) (hr : mm_Run l X 123 (d + 1) 6 [.ref 26, .int x1, .int x2, .long x3, .null] [.int r, .ref 26] (mm_Λ, I1, J1) mc ms o σ') : mm_Run l X 123 (d + 1) 0 [.ref 26, .int x1, .int x2, .long x3, .null] [] (mm_Λ, I, J) mc ms o σ' := by
  refine mm_aload_n (v := .ref 26) d123_0 rfl (Or.inl ⟨_, rfl⟩) ?_
  refine mm_iload_n d123_1 rfl ?_
  refine mm_iload_n d123_2 rfl ?_
  exact mm_callS0 (as := [.int x1, .int x2]) (S := [.ref 26]) d123_3 okm111 ln123_108 st111 rfl rfl (Nat.le_of_ble_eq_true rfl) (Nat.le_of_ble_eq_true rfl) hcall hr
theorem b123_6 {l : Launch} {X : Nat × (Nat → Int32)} {d : Nat} {I : Nat → Nat → Int32} {J : Nat → Nat → Int64} {x1 : Int32} {x2 : Int32} {x3 : Int64} {s0 : Int32} {mc ms : Nat} {o : mm_O} {σ' : mm_S} (kt : s0 ≤ 0 → mm_Run l X 123 (d + 1) 18 [.ref 26, .int x1, .int x2, .long x3, .null] [] (mm_Λ, (mm_set I 26 0 s0), J) mc ms o σ') (kf : ¬ (s0 ≤ 0) → mm_Run l X 123 (d + 1) 16 [.ref 26, .int x1, .int x2, .long x3, .null] [] (mm_Λ, (mm_set I 26 0 s0), J) mc ms o σ') : mm_Run l X 123 (d + 1) 6 [.ref 26, .int x1, .int x2, .long x3, .null] [.int s0, .ref 26] (mm_Λ, I, J) mc ms o σ' := by
  refine mm_putfield d123_6 okc9 fk123_65 fp123_65 rfl rfl rfl ?_
  refine mm_aload_n (v := .ref 26) d123_9 rfl (Or.inl ⟨_, rfl⟩) ?_
  refine mm_getfield (v := .int s0) d123_10 okc9 fk123_65 rfl rfl (by nofun) ?_
  refine mm_if (tgt := 18) d123_13 (by decide) (fun h => ?_) (fun h => ?_)
  · exact kt h
  · exact kf h
theorem b123_16 {l : Launch} {X : Nat × (Nat → Int32)} {d : Nat} {I : Nat → Nat → Int32} {J : Nat → Nat → Int64} {x1 : Int32} {x2 : Int32} {x3 : Int64} {mc ms : Nat}  : mm_Run l X 123 (d + 1) 16 [.ref 26, .int x1, .int x2, .long x3, .null] [] (mm_Λ, I, J) mc ms (.inl (some (.int 0))) (mm_Λ, I, J) := by
  refine mm_ic d123_16 ci0 ?_
  exact mm_ireturn d123_17 rfl
theorem b123_18 {l : Launch} {X : Nat × (Nat → Int32)} {d : Nat} {I : Nat → Nat → Int32} {J : Nat → Nat → Int64} {x1 : Int32} {x2 : Int32} {x3 : Int64} {mc ms : Nat} {o : mm_O} {σ' : mm_S} {I1 : Nat → Nat → Int32} {J1 : Nat → Nat → Int64} (hcall : mm_Call l X 112 d [.ref 26] (mm_Λ, I, J) 0 0 (.inl none) (mm_Λ, I1, J1)) (hr : mm_Run l X 123 (d + 1) 22 [.ref 26, .int x1, .int x2, .long x3, .null] [] (mm_Λ, I1, J1) mc ms o σ') : mm_Run l X 123 (d + 1) 18 [.ref 26, .int x1, .int x2, .long x3, .null] [] (mm_Λ, I, J) mc ms o σ' := by
  refine mm_aload_n (v := .ref 26) d123_18 rfl (Or.inl ⟨_, rfl⟩) ?_
  exact mm_callV0 (as := []) (S := []) d123_19 okm112 ln123_111 im112 se112 rfl ⟨_, _, rfl⟩ rfl rfl (Nat.le_of_ble_eq_true rfl) (Nat.le_of_ble_eq_true rfl) hcall hr
theorem b123_22 {l : Launch} {X : Nat × (Nat → Int32)} {d : Nat} {I : Nat → Nat → Int32} {J : Nat → Nat → Int64} {x1 : Int32} {x2 : Int32} {x3 : Int64} {mc ms : Nat} {o : mm_O} {σ' : mm_S} (kt : (lg_cmp x3 0) < 0 → mm_Run l X 123 (d + 1) 45 [.ref 26, .int x1, .int x2, .long x3, .null] [.ref 26] (mm_Λ, I, J) mc ms o σ') (kf : ¬ ((lg_cmp x3 0) < 0) → mm_Run l X 123 (d + 1) 29 [.ref 26, .int x1, .int x2, .long x3, .null] [.ref 26] (mm_Λ, I, J) mc ms o σ') : mm_Run l X 123 (d + 1) 22 [.ref 26, .int x1, .int x2, .long x3, .null] [] (mm_Λ, I, J) mc ms o σ' := by
  refine mm_aload_n (v := .ref 26) d123_22 rfl (Or.inl ⟨_, rfl⟩) ?_
  refine mm_lload_n d123_23 rfl ?_
  refine mm_lc d123_24 lc0 ?_
  refine mm_lcmp d123_25 ?_
  refine mm_if (tgt := 45) d123_26 (by decide) (fun h => ?_) (fun h => ?_)
  · exact kt h
  · exact kf h
theorem b123_29 {l : Launch} {X : Nat × (Nat → Int32)} {d : Nat} {I : Nat → Nat → Int32} {J : Nat → Nat → Int64} {x1 : Int32} {x2 : Int32} {x3 : Int64} {mc ms : Nat} {o : mm_O} {σ' : mm_S} (i40 : vp_in ((13 * x1) + x2) 78) (kt : (lg_cmp x3 (J 31 ((13 * x1) + x2).toNatClampNeg)) < 0 → mm_Run l X 123 (d + 1) 49 [.ref 26, .int x1, .int x2, .long x3, .null] [.ref 26] (mm_Λ, I, J) mc ms o σ') (kf : ¬ ((lg_cmp x3 (J 31 ((13 * x1) + x2).toNatClampNeg)) < 0) → mm_Run l X 123 (d + 1) 45 [.ref 26, .int x1, .int x2, .long x3, .null] [.ref 26] (mm_Λ, I, J) mc ms o σ') : mm_Run l X 123 (d + 1) 29 [.ref 26, .int x1, .int x2, .long x3, .null] [.ref 26] (mm_Λ, I, J) mc ms o σ' := by
  refine mm_lload_n d123_29 rfl ?_
  refine mm_aload_n (v := .ref 26) d123_30 rfl (Or.inl ⟨_, rfl⟩) ?_
  refine mm_getfield (v := .ref 31) d123_31 okc9 fk123_23 rfl rfl (by nofun) ?_
  refine mm_bi d123_34 cb13 ?_
  refine mm_iload_n d123_36 rfl ?_
  refine mm_imul d123_37 ?_
  refine mm_iload_n d123_38 rfl ?_
  refine mm_iadd d123_39 ?_
  refine mm_laload d123_40 rfl i40 ?_
  refine mm_lcmp d123_41 ?_
  refine mm_if (tgt := 49) d123_42 (by decide) (fun h => ?_) (fun h => ?_)
  · exact kt h
  · exact kf h
theorem b123_45 {l : Launch} {X : Nat × (Nat → Int32)} {d : Nat} {I : Nat → Nat → Int32} {J : Nat → Nat → Int64} {x1 : Int32} {x2 : Int32} {x3 : Int64} {mc ms : Nat} {o : mm_O} {σ' : mm_S} (hr : mm_Run l X 123 (d + 1) 50 [.ref 26, .int x1, .int x2, .long x3, .null] [.int 3, .ref 26] (mm_Λ, I, J) mc ms o σ') : mm_Run l X 123 (d + 1) 45 [.ref 26, .int x1, .int x2, .long x3, .null] [.ref 26] (mm_Λ, I, J) mc ms o σ' := by
  refine mm_ic d123_45 ci3 ?_
  refine mm_goto (tgt := 50) d123_46 (by decide) ?_
  exact hr
theorem b123_49 {l : Launch} {X : Nat × (Nat → Int32)} {d : Nat} {I : Nat → Nat → Int32} {J : Nat → Nat → Int64} {x1 : Int32} {x2 : Int32} {x3 : Int64} {mc ms : Nat} {o : mm_O} {σ' : mm_S} (hr : mm_Run l X 123 (d + 1) 50 [.ref 26, .int x1, .int x2, .long x3, .null] [.int 0, .ref 26] (mm_Λ, I, J) mc ms o σ') : mm_Run l X 123 (d + 1) 49 [.ref 26, .int x1, .int x2, .long x3, .null] [.ref 26] (mm_Λ, I, J) mc ms o σ' := by
  refine mm_ic d123_49 ci0 ?_
  exact hr
theorem b123_50 {l : Launch} {X : Nat × (Nat → Int32)} {d : Nat} {I : Nat → Nat → Int32} {J : Nat → Nat → Int64} {x1 : Int32} {x2 : Int32} {x3 : Int64} {s0 : Int32} {mc ms : Nat} {o : mm_O} {σ' : mm_S} (kt : s0 ≤ 0 → mm_Run l X 123 (d + 1) 62 [.ref 26, .int x1, .int x2, .long x3, .null] [] (mm_Λ, (mm_set I 26 0 s0), J) mc ms o σ') (kf : ¬ (s0 ≤ 0) → mm_Run l X 123 (d + 1) 60 [.ref 26, .int x1, .int x2, .long x3, .null] [] (mm_Λ, (mm_set I 26 0 s0), J) mc ms o σ') : mm_Run l X 123 (d + 1) 50 [.ref 26, .int x1, .int x2, .long x3, .null] [.int s0, .ref 26] (mm_Λ, I, J) mc ms o σ' := by
  refine mm_putfield d123_50 okc9 fk123_65 fp123_65 rfl rfl rfl ?_
  refine mm_aload_n (v := .ref 26) d123_53 rfl (Or.inl ⟨_, rfl⟩) ?_
  refine mm_getfield (v := .int s0) d123_54 okc9 fk123_65 rfl rfl (by nofun) ?_
  refine mm_if (tgt := 62) d123_57 (by decide) (fun h => ?_) (fun h => ?_)
  · exact kt h
  · exact kf h
theorem b123_60 {l : Launch} {X : Nat × (Nat → Int32)} {d : Nat} {I : Nat → Nat → Int32} {J : Nat → Nat → Int64} {x1 : Int32} {x2 : Int32} {x3 : Int64} {mc ms : Nat}  : mm_Run l X 123 (d + 1) 60 [.ref 26, .int x1, .int x2, .long x3, .null] [] (mm_Λ, I, J) mc ms (.inl (some (.int 0))) (mm_Λ, I, J) := by
  refine mm_ic d123_60 ci0 ?_
  exact mm_ireturn d123_61 rfl
theorem b123_62 {l : Launch} {X : Nat × (Nat → Int32)} {d : Nat} {I : Nat → Nat → Int32} {J : Nat → Nat → Int64} {x1 : Int32} {x2 : Int32} {x3 : Int64} {mc ms : Nat} {o : mm_O} {σ' : mm_S} {I1 : Nat → Nat → Int32} {J1 : Nat → Nat → Int64} (hcall : mm_Call l X 119 d [.ref 26, .int x1, .int x2, .long x3] (mm_Λ, (mm_set (mm_set I 26 8 0) 26 10 0), J) 0 0 (.inl none) (mm_Λ, I1, J1)) (hr : mm_Run l X 123 (d + 1) 79 [.ref 26, .int x1, .int x2, .long x3, .null] [] (mm_Λ, I1, J1) mc ms o σ') : mm_Run l X 123 (d + 1) 62 [.ref 26, .int x1, .int x2, .long x3, .null] [] (mm_Λ, I, J) mc ms o σ' := by
  refine mm_aload_n (v := .ref 26) d123_62 rfl (Or.inl ⟨_, rfl⟩) ?_
  refine mm_ic d123_63 ci0 ?_
  refine mm_putfield d123_64 okc9 fk123_132 fp123_132 rfl rfl rfl ?_
  refine mm_aload_n (v := .ref 26) d123_67 rfl (Or.inl ⟨_, rfl⟩) ?_
  refine mm_ic d123_68 ci0 ?_
  refine mm_putfield d123_69 okc9 fk123_114 fp123_114 rfl rfl rfl ?_
  refine mm_aload_n (v := .ref 26) d123_72 rfl (Or.inl ⟨_, rfl⟩) ?_
  refine mm_iload_n d123_73 rfl ?_
  refine mm_iload_n d123_74 rfl ?_
  refine mm_lload_n d123_75 rfl ?_
  exact mm_callV0 (as := [.int x1, .int x2, .long x3]) (S := []) d123_76 okm119 ln123_117 im119 se119 rfl ⟨_, _, rfl⟩ rfl rfl (Nat.le_of_ble_eq_true rfl) (Nat.le_of_ble_eq_true rfl) hcall hr
theorem b123_79 {l : Launch} {X : Nat × (Nat → Int32)} {d : Nat} {I : Nat → Nat → Int32} {J : Nat → Nat → Int64} {x1 : Int32} {x2 : Int32} {x3 : Int64} {mc ms : Nat} {o : mm_O} {σ' : mm_S} (kt : (I 26 10) ≤ 0 → mm_Run l X 123 (d + 1) 130 [.ref 26, .int x1, .int x2, .long x3, .null] [] (mm_Λ, I, J) mc ms o σ') (kf : ¬ ((I 26 10) ≤ 0) → mm_Run l X 123 (d + 1) 86 [.ref 26, .int x1, .int x2, .long x3, .null] [] (mm_Λ, I, J) mc ms o σ') : mm_Run l X 123 (d + 1) 79 [.ref 26, .int x1, .int x2, .long x3, .null] [] (mm_Λ, I, J) mc ms o σ' := by
  refine mm_aload_n (v := .ref 26) d123_79 rfl (Or.inl ⟨_, rfl⟩) ?_
  refine mm_getfield (v := .int (I 26 10)) d123_80 okc9 fk123_114 rfl rfl (by nofun) ?_
  refine mm_if (tgt := 130) d123_83 (by decide) (fun h => ?_) (fun h => ?_)
  · exact kt h
  · exact kf h
theorem b123_86 {l : Launch} {X : Nat × (Nat → Int32)} {d : Nat} {I : Nat → Nat → Int32} {J : Nat → Nat → Int64} {x1 : Int32} {x2 : Int32} {x3 : Int64} {mc ms : Nat} {o : mm_O} {σ' : mm_S} (i105 : vp_in ((I 26 10) - 1) 512) (i114 : vp_in ((I 26 10) - 1) 512) (i123 : vp_in ((I 26 10) - 1) 512) {I1 : Nat → Nat → Int32} {J1 : Nat → Nat → Int64} (hcall : mm_Call l X 124 d [.ref 26, .int (I 35 ((I 26 10) - 1).toNatClampNeg), .int (I 36 ((I 26 10) - 1).toNatClampNeg), .long (J 37 ((I 26 10) - 1).toNatClampNeg)] (mm_Λ, (mm_set I 26 10 ((I 26 10) - 1)), J) 0 0 (.inl none) (mm_Λ, I1, J1)) (hr : mm_Run l X 123 (d + 1) 127 [.ref 26, .int x1, .int x2, .long x3, .null] [] (mm_Λ, I1, J1) mc ms o σ') : mm_Run l X 123 (d + 1) 86 [.ref 26, .int x1, .int x2, .long x3, .null] [] (mm_Λ, I, J) mc ms o σ' := by
  refine mm_aload_n (v := .ref 26) d123_86 rfl (Or.inl ⟨_, rfl⟩) ?_
  refine mm_dup d123_87 rfl ?_
  refine mm_getfield (v := .int (I 26 10)) d123_88 okc9 fk123_114 rfl rfl (by nofun) ?_
  refine mm_ic d123_91 ci1 ?_
  refine mm_isub d123_92 ?_
  refine mm_putfield d123_93 okc9 fk123_114 fp123_114 rfl rfl rfl ?_
  refine mm_aload_n (v := .ref 26) d123_96 rfl (Or.inl ⟨_, rfl⟩) ?_
  refine mm_aload_n (v := .ref 26) d123_97 rfl (Or.inl ⟨_, rfl⟩) ?_
  refine mm_getfield (v := .ref 35) d123_98 okc9 fk123_35 rfl rfl (by nofun) ?_
  refine mm_aload_n (v := .ref 26) d123_101 rfl (Or.inl ⟨_, rfl⟩) ?_
  refine mm_getfield (v := .int ((I 26 10) - 1)) d123_102 okc9 fk123_114 rfl rfl (by nofun) ?_
  refine mm_iaload d123_105 rfl i105 ?_
  refine mm_aload_n (v := .ref 26) d123_106 rfl (Or.inl ⟨_, rfl⟩) ?_
  refine mm_getfield (v := .ref 36) d123_107 okc9 fk123_38 rfl rfl (by nofun) ?_
  refine mm_aload_n (v := .ref 26) d123_110 rfl (Or.inl ⟨_, rfl⟩) ?_
  refine mm_getfield (v := .int ((I 26 10) - 1)) d123_111 okc9 fk123_114 rfl rfl (by nofun) ?_
  refine mm_iaload d123_114 rfl i114 ?_
  refine mm_aload_n (v := .ref 26) d123_115 rfl (Or.inl ⟨_, rfl⟩) ?_
  refine mm_getfield (v := .ref 37) d123_116 okc9 fk123_41 rfl rfl (by nofun) ?_
  refine mm_aload_n (v := .ref 26) d123_119 rfl (Or.inl ⟨_, rfl⟩) ?_
  refine mm_getfield (v := .int ((I 26 10) - 1)) d123_120 okc9 fk123_114 rfl rfl (by nofun) ?_
  refine mm_laload d123_123 rfl i123 ?_
  exact mm_callV0 (as := [.int (I 35 ((I 26 10) - 1).toNatClampNeg), .int (I 36 ((I 26 10) - 1).toNatClampNeg), .long (J 37 ((I 26 10) - 1).toNatClampNeg)]) (S := []) d123_124 okm124 ln123_141 im124 se124 rfl ⟨_, _, rfl⟩ rfl rfl (Nat.le_of_ble_eq_true rfl) (Nat.le_of_ble_eq_true rfl) hcall hr
theorem b123_127 {l : Launch} {X : Nat × (Nat → Int32)} {d : Nat} {I : Nat → Nat → Int32} {J : Nat → Nat → Int64} {x1 : Int32} {x2 : Int32} {x3 : Int64} {mc ms : Nat} {o : mm_O} {σ' : mm_S} (hr : mm_Run l X 123 (d + 1) 79 [.ref 26, .int x1, .int x2, .long x3, .null] [] (mm_Λ, I, J) mc ms o σ') : mm_Run l X 123 (d + 1) 127 [.ref 26, .int x1, .int x2, .long x3, .null] [] (mm_Λ, I, J) mc ms o σ' := by
  refine mm_goto (tgt := 79) d123_127 (by decide) ?_
  exact hr
theorem b123_130 {l : Launch} {X : Nat × (Nat → Int32)} {d : Nat} {I : Nat → Nat → Int32} {J : Nat → Nat → Int64} {x1 : Int32} {x2 : Int32} {x3 : Int64} {mc ms : Nat}  : mm_Run l X 123 (d + 1) 130 [.ref 26, .int x1, .int x2, .long x3, .null] [] (mm_Λ, I, J) mc ms (.inl (some (.int (I 26 8)))) (mm_Λ, I, J) := by
  refine mm_aload_n (v := .ref 26) d123_130 rfl (Or.inl ⟨_, rfl⟩) ?_
  refine mm_getfield (v := .int (I 26 8)) d123_131 okc9 fk123_132 rfl rfl (by nofun) ?_
  exact mm_ireturn d123_134 rfl
theorem b124_0 {l : Launch} {X : Nat × (Nat → Int32)} {d : Nat} {I : Nat → Nat → Int32} {J : Nat → Nat → Int64} {x1 : Int32} {x2 : Int32} {x3 : Int64} {mc ms : Nat} {o : mm_O} {σ' : mm_S} (hr : mm_Run l X 124 (d + 1) 6 [.ref 26, .int x1, .int x2, .long x3, .null, .int 0, .long x3, .null, .null, .null, .null, .null, .null, .null] [] (mm_Λ, I, J) mc ms o σ') : mm_Run l X 124 (d + 1) 0 [.ref 26, .int x1, .int x2, .long x3, .null, .null, .null, .null, .null, .null, .null, .null, .null, .null] [] (mm_Λ, I, J) mc ms o σ' := by
  refine mm_ic d124_0 ci0 ?_
  refine mm_istore d124_1 (by decide +kernel) ?_
  refine mm_lload_n d124_3 rfl ?_
  refine mm_lstore d124_4 (by decide +kernel) ?_
  exact hr
theorem b124_6 {l : Launch} {X : Nat × (Nat → Int32)} {d : Nat} {I : Nat → Nat → Int32} {J : Nat → Nat → Int64} {x1 : Int32} {x2 : Int32} {x3 : Int64} {x5 : Int32} {x6 : Int64} {mc ms : Nat} {o : mm_O} {σ' : mm_S} {r : Int64} {I1 : Nat → Nat → Int32} {J1 : Nat → Nat → Int64} (hcall : mm_Call l X 113 d [.ref 26, .int x1, .int x5, .int x2] (mm_Λ, I, J) 0 0 (.inl (some (.long r))) (mm_Λ, I1, J1)) (hr : mm_Run l X 124 (d + 1) 16 [.ref 26, .int x1, .int x2, .long x3, .null, .int x5, .long x6, .null, .null, .null, .null, .null, .null, .null] [.long r, .long x6] (mm_Λ, I1, J1) mc ms o σ') : mm_Run l X 124 (d + 1) 6 [.ref 26, .int x1, .int x2, .long x3, .null, .int x5, .long x6, .null, .null, .null, .null, .null, .null, .null] [] (mm_Λ, I, J) mc ms o σ' := by
  refine mm_lload d124_6 rfl ?_
  refine mm_aload_n (v := .ref 26) d124_8 rfl (Or.inl ⟨_, rfl⟩) ?_
  refine mm_iload_n d124_9 rfl ?_
  refine mm_iload d124_10 rfl ?_
  refine mm_iload_n d124_12 rfl ?_
  exact mm_callV0 (as := [.int x1, .int x5, .int x2]) (S := [.long x6]) d124_13 okm113 ln124_98 im113 se113 rfl ⟨_, _, rfl⟩ rfl rfl (Nat.le_of_ble_eq_true rfl) (Nat.le_of_ble_eq_true rfl) hcall hr
theorem b124_16 {l : Launch} {X : Nat × (Nat → Int32)} {d : Nat} {I : Nat → Nat → Int32} {J : Nat → Nat → Int64} {x1 : Int32} {x2 : Int32} {x3 : Int64} {x5 : Int32} {x6 : Int64} {s0 : Int64} {s1 : Int64} {mc ms : Nat} {o : mm_O} {σ' : mm_S} (kt : (lg_cmp s1 s0) < 0 → mm_Run l X 124 (d + 1) 39 [.ref 26, .int x1, .int x2, .long x3, .null, .int x5, .long x6, .null, .null, .null, .null, .null, .null, .null] [] (mm_Λ, I, J) mc ms o σ') (kf : ¬ ((lg_cmp s1 s0) < 0) → mm_Run l X 124 (d + 1) 20 [.ref 26, .int x1, .int x2, .long x3, .null, .int x5, .long x6, .null, .null, .null, .null, .null, .null, .null] [] (mm_Λ, I, J) mc ms o σ') : mm_Run l X 124 (d + 1) 16 [.ref 26, .int x1, .int x2, .long x3, .null, .int x5, .long x6, .null, .null, .null, .null, .null, .null, .null] [.long s0, .long s1] (mm_Λ, I, J) mc ms o σ' := by
  refine mm_lcmp d124_16 ?_
  refine mm_if (tgt := 39) d124_17 (by decide) (fun h => ?_) (fun h => ?_)
  · exact kt h
  · exact kf h
theorem b124_20 {l : Launch} {X : Nat × (Nat → Int32)} {d : Nat} {I : Nat → Nat → Int32} {J : Nat → Nat → Int64} {x1 : Int32} {x2 : Int32} {x3 : Int64} {x5 : Int32} {x6 : Int64} {mc ms : Nat} {o : mm_O} {σ' : mm_S} {r : Int64} {I1 : Nat → Nat → Int32} {J1 : Nat → Nat → Int64} (hcall : mm_Call l X 113 d [.ref 26, .int x1, .int x5, .int x2] (mm_Λ, I, J) 0 0 (.inl (some (.long r))) (mm_Λ, I1, J1)) (hr : mm_Run l X 124 (d + 1) 30 [.ref 26, .int x1, .int x2, .long x3, .null, .int x5, .long x6, .null, .null, .null, .null, .null, .null, .null] [.long r, .long x6] (mm_Λ, I1, J1) mc ms o σ') : mm_Run l X 124 (d + 1) 20 [.ref 26, .int x1, .int x2, .long x3, .null, .int x5, .long x6, .null, .null, .null, .null, .null, .null, .null] [] (mm_Λ, I, J) mc ms o σ' := by
  refine mm_lload d124_20 rfl ?_
  refine mm_aload_n (v := .ref 26) d124_22 rfl (Or.inl ⟨_, rfl⟩) ?_
  refine mm_iload_n d124_23 rfl ?_
  refine mm_iload d124_24 rfl ?_
  refine mm_iload_n d124_26 rfl ?_
  exact mm_callV0 (as := [.int x1, .int x5, .int x2]) (S := [.long x6]) d124_27 okm113 ln124_98 im113 se113 rfl ⟨_, _, rfl⟩ rfl rfl (Nat.le_of_ble_eq_true rfl) (Nat.le_of_ble_eq_true rfl) hcall hr
theorem b124_30 {l : Launch} {X : Nat × (Nat → Int32)} {d : Nat} {I : Nat → Nat → Int32} {J : Nat → Nat → Int64} {x1 : Int32} {x2 : Int32} {x3 : Int64} {x5 : Int32} {x6 : Int64} {s0 : Int64} {s1 : Int64} {mc ms : Nat} {o : mm_O} {σ' : mm_S} (hr : mm_Run l X 124 (d + 1) 6 [.ref 26, .int x1, .int x2, .long x3, .null, .int (x5 + 1), .long (s1 - s0), .null, .null, .null, .null, .null, .null, .null] [] (mm_Λ, I, J) mc ms o σ') : mm_Run l X 124 (d + 1) 30 [.ref 26, .int x1, .int x2, .long x3, .null, .int x5, .long x6, .null, .null, .null, .null, .null, .null, .null] [.long s0, .long s1] (mm_Λ, I, J) mc ms o σ' := by
  refine mm_lsub d124_30 ?_
  refine mm_lstore d124_31 (by decide +kernel) ?_
  refine mm_ii d124_33 ci1 rfl (by decide +kernel) ?_
  refine mm_goto (tgt := 6) d124_36 (by decide) ?_
  exact hr
theorem b124_39 {l : Launch} {X : Nat × (Nat → Int32)} {d : Nat} {I : Nat → Nat → Int32} {J : Nat → Nat → Int64} {x1 : Int32} {x2 : Int32} {x3 : Int64} {x5 : Int32} {x6 : Int64} {mc ms : Nat} {o : mm_O} {σ' : mm_S} (i49 : vp_in (I 26 8) 256) (hr : mm_Run l X 124 (d + 1) 66 [.ref 26, .int x1, .int x2, .long x3, .null, .int x5, .long x6, .null, .int 0, .int 0, .null, .null, .null, .null] [] (mm_Λ, (mm_set (mm_set I 34 (I 26 8).toNatClampNeg x5) 26 8 ((I 26 8) + 1)), J) mc ms o σ') : mm_Run l X 124 (d + 1) 39 [.ref 26, .int x1, .int x2, .long x3, .null, .int x5, .long x6, .null, .null, .null, .null, .null, .null, .null] [] (mm_Λ, I, J) mc ms o σ' := by
  refine mm_aload_n (v := .ref 26) d124_39 rfl (Or.inl ⟨_, rfl⟩) ?_
  refine mm_getfield (v := .ref 34) d124_40 okc9 fk124_32 rfl rfl (by nofun) ?_
  refine mm_aload_n (v := .ref 26) d124_43 rfl (Or.inl ⟨_, rfl⟩) ?_
  refine mm_getfield (v := .int (I 26 8)) d124_44 okc9 fk124_132 rfl rfl (by nofun) ?_
  refine mm_iload d124_47 rfl ?_
  refine mm_iastore d124_49 rfl i49 ?_
  refine mm_aload_n (v := .ref 26) d124_50 rfl (Or.inl ⟨_, rfl⟩) ?_
  refine mm_dup d124_51 rfl ?_
  refine mm_getfield (v := .int (I 26 8)) d124_52 okc9 fk124_132 rfl rfl (by nofun) ?_
  refine mm_ic d124_55 ci1 ?_
  refine mm_iadd d124_56 ?_
  refine mm_putfield d124_57 okc9 fk124_132 fp124_132 rfl rfl rfl ?_
  refine mm_ic d124_60 ci0 ?_
  refine mm_istore d124_61 (by decide +kernel) ?_
  refine mm_ic d124_63 ci0 ?_
  refine mm_istore d124_64 (by decide +kernel) ?_
  exact hr
theorem b124_66 {l : Launch} {X : Nat × (Nat → Int32)} {d : Nat} {I : Nat → Nat → Int32} {J : Nat → Nat → Int64} {x1 : Int32} {x2 : Int32} {x3 : Int64} {x5 : Int32} {x6 : Int64} {x8 : Int32} {x9 : Int32} {mc ms : Nat} {o : mm_O} {σ' : mm_S} {r : Int64} {I1 : Nat → Nat → Int32} {J1 : Nat → Nat → Int64} (hcall : mm_Call l X 114 d [.ref 26, .int x1, .int x5, .int x8, .int x9, .int (((x2 - 1) - x8) - x9)] (mm_Λ, I, J) 0 0 (.inl (some (.long r))) (mm_Λ, I1, J1)) (hr : mm_Run l X 124 (d + 1) 88 [.ref 26, .int x1, .int x2, .long x3, .null, .int x5, .long x6, .null, .int x8, .int x9, .null, .null, .null, .null] [.long r, .long x6] (mm_Λ, I1, J1) mc ms o σ') : mm_Run l X 124 (d + 1) 66 [.ref 26, .int x1, .int x2, .long x3, .null, .int x5, .long x6, .null, .int x8, .int x9, .null, .null, .null, .null] [] (mm_Λ, I, J) mc ms o σ' := by
  refine mm_lload d124_66 rfl ?_
  refine mm_aload_n (v := .ref 26) d124_68 rfl (Or.inl ⟨_, rfl⟩) ?_
  refine mm_iload_n d124_69 rfl ?_
  refine mm_iload d124_70 rfl ?_
  refine mm_iload d124_72 rfl ?_
  refine mm_iload d124_74 rfl ?_
  refine mm_iload_n d124_76 rfl ?_
  refine mm_ic d124_77 ci1 ?_
  refine mm_isub d124_78 ?_
  refine mm_iload d124_79 rfl ?_
  refine mm_isub d124_81 ?_
  refine mm_iload d124_82 rfl ?_
  refine mm_isub d124_84 ?_
  exact mm_callV0 (as := [.int x1, .int x5, .int x8, .int x9, .int (((x2 - 1) - x8) - x9)]) (S := [.long x6]) d124_85 okm114 ln124_94 im114 se114 rfl ⟨_, _, rfl⟩ rfl rfl (Nat.le_of_ble_eq_true rfl) (Nat.le_of_ble_eq_true rfl) hcall hr
theorem b124_88 {l : Launch} {X : Nat × (Nat → Int32)} {d : Nat} {I : Nat → Nat → Int32} {J : Nat → Nat → Int64} {x1 : Int32} {x2 : Int32} {x3 : Int64} {x5 : Int32} {x6 : Int64} {x8 : Int32} {x9 : Int32} {s0 : Int64} {s1 : Int64} {mc ms : Nat} {o : mm_O} {σ' : mm_S} (kt : (lg_cmp s1 s0) < 0 → mm_Run l X 124 (d + 1) 138 [.ref 26, .int x1, .int x2, .long x3, .null, .int x5, .long x6, .null, .int x8, .int x9, .null, .null, .null, .null] [] (mm_Λ, I, J) mc ms o σ') (kf : ¬ ((lg_cmp s1 s0) < 0) → mm_Run l X 124 (d + 1) 92 [.ref 26, .int x1, .int x2, .long x3, .null, .int x5, .long x6, .null, .int x8, .int x9, .null, .null, .null, .null] [] (mm_Λ, I, J) mc ms o σ') : mm_Run l X 124 (d + 1) 88 [.ref 26, .int x1, .int x2, .long x3, .null, .int x5, .long x6, .null, .int x8, .int x9, .null, .null, .null, .null] [.long s0, .long s1] (mm_Λ, I, J) mc ms o σ' := by
  refine mm_lcmp d124_88 ?_
  refine mm_if (tgt := 138) d124_89 (by decide) (fun h => ?_) (fun h => ?_)
  · exact kt h
  · exact kf h
theorem b124_92 {l : Launch} {X : Nat × (Nat → Int32)} {d : Nat} {I : Nat → Nat → Int32} {J : Nat → Nat → Int64} {x1 : Int32} {x2 : Int32} {x3 : Int64} {x5 : Int32} {x6 : Int64} {x8 : Int32} {x9 : Int32} {mc ms : Nat} {o : mm_O} {σ' : mm_S} {r : Int64} {I1 : Nat → Nat → Int32} {J1 : Nat → Nat → Int64} (hcall : mm_Call l X 114 d [.ref 26, .int x1, .int x5, .int x8, .int x9, .int (((x2 - 1) - x8) - x9)] (mm_Λ, I, J) 0 0 (.inl (some (.long r))) (mm_Λ, I1, J1)) (hr : mm_Run l X 124 (d + 1) 114 [.ref 26, .int x1, .int x2, .long x3, .null, .int x5, .long x6, .null, .int x8, .int x9, .null, .null, .null, .null] [.long r, .long x6] (mm_Λ, I1, J1) mc ms o σ') : mm_Run l X 124 (d + 1) 92 [.ref 26, .int x1, .int x2, .long x3, .null, .int x5, .long x6, .null, .int x8, .int x9, .null, .null, .null, .null] [] (mm_Λ, I, J) mc ms o σ' := by
  refine mm_lload d124_92 rfl ?_
  refine mm_aload_n (v := .ref 26) d124_94 rfl (Or.inl ⟨_, rfl⟩) ?_
  refine mm_iload_n d124_95 rfl ?_
  refine mm_iload d124_96 rfl ?_
  refine mm_iload d124_98 rfl ?_
  refine mm_iload d124_100 rfl ?_
  refine mm_iload_n d124_102 rfl ?_
  refine mm_ic d124_103 ci1 ?_
  refine mm_isub d124_104 ?_
  refine mm_iload d124_105 rfl ?_
  refine mm_isub d124_107 ?_
  refine mm_iload d124_108 rfl ?_
  refine mm_isub d124_110 ?_
  exact mm_callV0 (as := [.int x1, .int x5, .int x8, .int x9, .int (((x2 - 1) - x8) - x9)]) (S := [.long x6]) d124_111 okm114 ln124_94 im114 se114 rfl ⟨_, _, rfl⟩ rfl rfl (Nat.le_of_ble_eq_true rfl) (Nat.le_of_ble_eq_true rfl) hcall hr
theorem b124_114 {l : Launch} {X : Nat × (Nat → Int32)} {d : Nat} {I : Nat → Nat → Int32} {J : Nat → Nat → Int64} {x1 : Int32} {x2 : Int32} {x3 : Int64} {x5 : Int32} {x6 : Int64} {x8 : Int32} {x9 : Int32} {s0 : Int64} {s1 : Int64} {mc ms : Nat} {o : mm_O} {σ' : mm_S} (kt : ¬ (x8 + (x9 + 1)) = x2 → mm_Run l X 124 (d + 1) 66 [.ref 26, .int x1, .int x2, .long x3, .null, .int x5, .long (s1 - s0), .null, .int x8, .int (x9 + 1), .null, .null, .null, .null] [] (mm_Λ, I, J) mc ms o σ') (kf : ¬ (¬ (x8 + (x9 + 1)) = x2) → mm_Run l X 124 (d + 1) 129 [.ref 26, .int x1, .int x2, .long x3, .null, .int x5, .long (s1 - s0), .null, .int x8, .int (x9 + 1), .null, .null, .null, .null] [] (mm_Λ, I, J) mc ms o σ') : mm_Run l X 124 (d + 1) 114 [.ref 26, .int x1, .int x2, .long x3, .null, .int x5, .long x6, .null, .int x8, .int x9, .null, .null, .null, .null] [.long s0, .long s1] (mm_Λ, I, J) mc ms o σ' := by
  refine mm_lsub d124_114 ?_
  refine mm_lstore d124_115 (by decide +kernel) ?_
  refine mm_ii d124_117 ci1 rfl (by decide +kernel) ?_
  refine mm_iload d124_120 rfl ?_
  refine mm_iload d124_122 rfl ?_
  refine mm_iadd d124_124 ?_
  refine mm_iload_n d124_125 rfl ?_
  refine mm_icmp (tgt := 66) d124_126 (by decide) (fun h => ?_) (fun h => ?_)
  · exact kt h
  · exact kf h
theorem b124_129 {l : Launch} {X : Nat × (Nat → Int32)} {d : Nat} {I : Nat → Nat → Int32} {J : Nat → Nat → Int64} {x1 : Int32} {x2 : Int32} {x3 : Int64} {x5 : Int32} {x6 : Int64} {x8 : Int32} {x9 : Int32} {mc ms : Nat} {o : mm_O} {σ' : mm_S} (hr : mm_Run l X 124 (d + 1) 66 [.ref 26, .int x1, .int x2, .long x3, .null, .int x5, .long x6, .null, .int (x8 + 1), .int 0, .null, .null, .null, .null] [] (mm_Λ, I, J) mc ms o σ') : mm_Run l X 124 (d + 1) 129 [.ref 26, .int x1, .int x2, .long x3, .null, .int x5, .long x6, .null, .int x8, .int x9, .null, .null, .null, .null] [] (mm_Λ, I, J) mc ms o σ' := by
  refine mm_ii d124_129 ci1 rfl (by decide +kernel) ?_
  refine mm_ic d124_132 ci0 ?_
  refine mm_istore d124_133 (by decide +kernel) ?_
  refine mm_goto (tgt := 66) d124_135 (by decide) ?_
  exact hr
theorem b124_138 {l : Launch} {X : Nat × (Nat → Int32)} {d : Nat} {I : Nat → Nat → Int32} {J : Nat → Nat → Int64} {x1 : Int32} {x2 : Int32} {x3 : Int64} {x5 : Int32} {x6 : Int64} {x8 : Int32} {x9 : Int32} {mc ms : Nat} {o : mm_O} {σ' : mm_S} (i148 : vp_in ((4 * x1) + x5) 24) (hr : mm_Run l X 124 (d + 1) 153 [.ref 26, .int x1, .int x2, .long x3, .null, .int x5, .long x6, .null, .int x8, .int x9, .int ((I 28 ((4 * x1) + x5).toNatClampNeg) - 1), .null, .null, .null] [] (mm_Λ, I, J) mc ms o σ') : mm_Run l X 124 (d + 1) 138 [.ref 26, .int x1, .int x2, .long x3, .null, .int x5, .long x6, .null, .int x8, .int x9, .null, .null, .null, .null] [] (mm_Λ, I, J) mc ms o σ' := by
  refine mm_aload_n (v := .ref 26) d124_138 rfl (Or.inl ⟨_, rfl⟩) ?_
  refine mm_getfield (v := .ref 28) d124_139 okc9 fk124_13 rfl rfl (by nofun) ?_
  refine mm_ic d124_142 ci4 ?_
  refine mm_iload_n d124_143 rfl ?_
  refine mm_imul d124_144 ?_
  refine mm_iload d124_145 rfl ?_
  refine mm_iadd d124_147 ?_
  refine mm_iaload d124_148 rfl i148 ?_
  refine mm_ic d124_149 ci1 ?_
  refine mm_isub d124_150 ?_
  refine mm_istore d124_151 (by decide +kernel) ?_
  exact hr
theorem b124_153 {l : Launch} {X : Nat × (Nat → Int32)} {d : Nat} {I : Nat → Nat → Int32} {J : Nat → Nat → Int64} {x1 : Int32} {x2 : Int32} {x3 : Int64} {x5 : Int32} {x6 : Int64} {x8 : Int32} {x9 : Int32} {x10 : Int32} {mc ms : Nat} {o : mm_O} {σ' : mm_S} (kt : x10 < 0 → mm_Run l X 124 (d + 1) 240 [.ref 26, .int x1, .int x2, .long x3, .null, .int x5, .long x6, .null, .int x8, .int x9, .int x10, .null, .null, .null] [] (mm_Λ, I, J) mc ms o σ') (kf : ¬ (x10 < 0) → mm_Run l X 124 (d + 1) 158 [.ref 26, .int x1, .int x2, .long x3, .null, .int x5, .long x6, .null, .int x8, .int x9, .int x10, .null, .null, .null] [] (mm_Λ, I, J) mc ms o σ') : mm_Run l X 124 (d + 1) 153 [.ref 26, .int x1, .int x2, .long x3, .null, .int x5, .long x6, .null, .int x8, .int x9, .int x10, .null, .null, .null] [] (mm_Λ, I, J) mc ms o σ' := by
  refine mm_iload d124_153 rfl ?_
  refine mm_if (tgt := 240) d124_155 (by decide) (fun h => ?_) (fun h => ?_)
  · exact kt h
  · exact kf h
theorem b124_158 {l : Launch} {X : Nat × (Nat → Int32)} {d : Nat} {I : Nat → Nat → Int32} {J : Nat → Nat → Int64} {x1 : Int32} {x2 : Int32} {x3 : Int64} {x5 : Int32} {x6 : Int64} {x8 : Int32} {x9 : Int32} {x10 : Int32} {mc ms : Nat} {o : mm_O} {σ' : mm_S} (kt : ¬ x10 = 0 → mm_Run l X 124 (d + 1) 168 [.ref 26, .int x1, .int x2, .long x3, .null, .int x5, .long x6, .null, .int x8, .int x9, .int x10, .null, .null, .null] [] (mm_Λ, I, J) mc ms o σ') (kf : ¬ (¬ x10 = 0) → mm_Run l X 124 (d + 1) 163 [.ref 26, .int x1, .int x2, .long x3, .null, .int x5, .long x6, .null, .int x8, .int x9, .int x10, .null, .null, .null] [] (mm_Λ, I, J) mc ms o σ') : mm_Run l X 124 (d + 1) 158 [.ref 26, .int x1, .int x2, .long x3, .null, .int x5, .long x6, .null, .int x8, .int x9, .int x10, .null, .null, .null] [] (mm_Λ, I, J) mc ms o σ' := by
  refine mm_iload d124_158 rfl ?_
  refine mm_if (tgt := 168) d124_160 (by decide) (fun h => ?_) (fun h => ?_)
  · exact kt h
  · exact kf h
theorem b124_163 {l : Launch} {X : Nat × (Nat → Int32)} {d : Nat} {I : Nat → Nat → Int32} {J : Nat → Nat → Int64} {x1 : Int32} {x2 : Int32} {x3 : Int64} {x5 : Int32} {x6 : Int64} {x8 : Int32} {x9 : Int32} {x10 : Int32} {mc ms : Nat} {o : mm_O} {σ' : mm_S} (hr : mm_Run l X 124 (d + 1) 188 [.ref 26, .int x1, .int x2, .long x3, .null, .int x5, .long x6, .null, .int x8, .int x9, .int x10, .null, .null, .null] [.int x8] (mm_Λ, I, J) mc ms o σ') : mm_Run l X 124 (d + 1) 163 [.ref 26, .int x1, .int x2, .long x3, .null, .int x5, .long x6, .null, .int x8, .int x9, .int x10, .null, .null, .null] [] (mm_Λ, I, J) mc ms o σ' := by
  refine mm_iload d124_163 rfl ?_
  refine mm_goto (tgt := 188) d124_165 (by decide) ?_
  exact hr
theorem b124_168 {l : Launch} {X : Nat × (Nat → Int32)} {d : Nat} {I : Nat → Nat → Int32} {J : Nat → Nat → Int64} {x1 : Int32} {x2 : Int32} {x3 : Int64} {x5 : Int32} {x6 : Int64} {x8 : Int32} {x9 : Int32} {x10 : Int32} {mc ms : Nat} {o : mm_O} {σ' : mm_S} (kt : ¬ x10 = 1 → mm_Run l X 124 (d + 1) 179 [.ref 26, .int x1, .int x2, .long x3, .null, .int x5, .long x6, .null, .int x8, .int x9, .int x10, .null, .null, .null] [] (mm_Λ, I, J) mc ms o σ') (kf : ¬ (¬ x10 = 1) → mm_Run l X 124 (d + 1) 174 [.ref 26, .int x1, .int x2, .long x3, .null, .int x5, .long x6, .null, .int x8, .int x9, .int x10, .null, .null, .null] [] (mm_Λ, I, J) mc ms o σ') : mm_Run l X 124 (d + 1) 168 [.ref 26, .int x1, .int x2, .long x3, .null, .int x5, .long x6, .null, .int x8, .int x9, .int x10, .null, .null, .null] [] (mm_Λ, I, J) mc ms o σ' := by
  refine mm_iload d124_168 rfl ?_
  refine mm_ic d124_170 ci1 ?_
  refine mm_icmp (tgt := 179) d124_171 (by decide) (fun h => ?_) (fun h => ?_)
  · exact kt h
  · exact kf h
theorem b124_174 {l : Launch} {X : Nat × (Nat → Int32)} {d : Nat} {I : Nat → Nat → Int32} {J : Nat → Nat → Int64} {x1 : Int32} {x2 : Int32} {x3 : Int64} {x5 : Int32} {x6 : Int64} {x8 : Int32} {x9 : Int32} {x10 : Int32} {mc ms : Nat} {o : mm_O} {σ' : mm_S} (hr : mm_Run l X 124 (d + 1) 188 [.ref 26, .int x1, .int x2, .long x3, .null, .int x5, .long x6, .null, .int x8, .int x9, .int x10, .null, .null, .null] [.int x9] (mm_Λ, I, J) mc ms o σ') : mm_Run l X 124 (d + 1) 174 [.ref 26, .int x1, .int x2, .long x3, .null, .int x5, .long x6, .null, .int x8, .int x9, .int x10, .null, .null, .null] [] (mm_Λ, I, J) mc ms o σ' := by
  refine mm_iload d124_174 rfl ?_
  refine mm_goto (tgt := 188) d124_176 (by decide) ?_
  exact hr
theorem b124_179 {l : Launch} {X : Nat × (Nat → Int32)} {d : Nat} {I : Nat → Nat → Int32} {J : Nat → Nat → Int64} {x1 : Int32} {x2 : Int32} {x3 : Int64} {x5 : Int32} {x6 : Int64} {x8 : Int32} {x9 : Int32} {x10 : Int32} {mc ms : Nat} {o : mm_O} {σ' : mm_S} (hr : mm_Run l X 124 (d + 1) 188 [.ref 26, .int x1, .int x2, .long x3, .null, .int x5, .long x6, .null, .int x8, .int x9, .int x10, .null, .null, .null] [.int (((x2 - 1) - x8) - x9)] (mm_Λ, I, J) mc ms o σ') : mm_Run l X 124 (d + 1) 179 [.ref 26, .int x1, .int x2, .long x3, .null, .int x5, .long x6, .null, .int x8, .int x9, .int x10, .null, .null, .null] [] (mm_Λ, I, J) mc ms o σ' := by
  refine mm_iload_n d124_179 rfl ?_
  refine mm_ic d124_180 ci1 ?_
  refine mm_isub d124_181 ?_
  refine mm_iload d124_182 rfl ?_
  refine mm_isub d124_184 ?_
  refine mm_iload d124_185 rfl ?_
  refine mm_isub d124_187 ?_
  exact hr
theorem b124_188 {l : Launch} {X : Nat × (Nat → Int32)} {d : Nat} {I : Nat → Nat → Int32} {J : Nat → Nat → Int64} {x1 : Int32} {x2 : Int32} {x3 : Int64} {x5 : Int32} {x6 : Int64} {x8 : Int32} {x9 : Int32} {x10 : Int32} {s0 : Int32} {mc ms : Nat} {o : mm_O} {σ' : mm_S} {r : Int32} {I1 : Nat → Nat → Int32} {J1 : Nat → Nat → Int64} (hcall : mm_Call l X 107 d [.ref 26, .int x1, .int x5, .int x10] (mm_Λ, I, J) 0 0 (.inl (some (.int r))) (mm_Λ, I1, J1)) (hr : mm_Run l X 124 (d + 1) 200 [.ref 26, .int x1, .int x2, .long x3, .null, .int x5, .long x6, .null, .int x8, .int x9, .int x10, .int s0, .null, .null] [.int r, .ref 26] (mm_Λ, I1, J1) mc ms o σ') : mm_Run l X 124 (d + 1) 188 [.ref 26, .int x1, .int x2, .long x3, .null, .int x5, .long x6, .null, .int x8, .int x9, .int x10, .null, .null, .null] [.int s0] (mm_Λ, I, J) mc ms o σ' := by
  refine mm_istore d124_188 (by decide +kernel) ?_
  refine mm_aload_n (v := .ref 26) d124_190 rfl (Or.inl ⟨_, rfl⟩) ?_
  refine mm_aload_n (v := .ref 26) d124_191 rfl (Or.inl ⟨_, rfl⟩) ?_
  refine mm_iload_n d124_192 rfl ?_
  refine mm_iload d124_193 rfl ?_
  refine mm_iload d124_195 rfl ?_
  exact mm_callV0 (as := [.int x1, .int x5, .int x10]) (S := [.ref 26]) d124_197 okm107 ln124_75 im107 se107 rfl ⟨_, _, rfl⟩ rfl rfl (Nat.le_of_ble_eq_true rfl) (Nat.le_of_ble_eq_true rfl) hcall hr
theorem b124_200 {l : Launch} {X : Nat × (Nat → Int32)} {d : Nat} {I : Nat → Nat → Int32} {J : Nat → Nat → Int64} {x1 : Int32} {x2 : Int32} {x3 : Int64} {x5 : Int32} {x6 : Int64} {x8 : Int32} {x9 : Int32} {x10 : Int32} {x11 : Int32} {s0 : Int32} {mc ms : Nat} {o : mm_O} {σ' : mm_S} {r : Int64} {I1 : Nat → Nat → Int32} {J1 : Nat → Nat → Int64} (hcall : mm_Call l X 115 d [.ref 26, .int s0, .int x11] (mm_Λ, I, J) 0 0 (.inl (some (.long r))) (mm_Λ, I1, J1)) (hr : mm_Run l X 124 (d + 1) 205 [.ref 26, .int x1, .int x2, .long x3, .null, .int x5, .long x6, .null, .int x8, .int x9, .int x10, .int x11, .null, .null] [.long r] (mm_Λ, I1, J1) mc ms o σ') : mm_Run l X 124 (d + 1) 200 [.ref 26, .int x1, .int x2, .long x3, .null, .int x5, .long x6, .null, .int x8, .int x9, .int x10, .int x11, .null, .null] [.int s0, .ref 26] (mm_Λ, I, J) mc ms o σ' := by
  refine mm_iload d124_200 rfl ?_
  exact mm_callV0 (as := [.int s0, .int x11]) (S := []) d124_202 okm115 ln124_90 im115 se115 rfl ⟨_, _, rfl⟩ rfl rfl (Nat.le_of_ble_eq_true rfl) (Nat.le_of_ble_eq_true rfl) hcall hr
theorem b124_205 {l : Launch} {X : Nat × (Nat → Int32)} {d : Nat} {I : Nat → Nat → Int32} {J : Nat → Nat → Int64} {x1 : Int32} {x2 : Int32} {x3 : Int64} {x5 : Int32} {x6 : Int64} {x8 : Int32} {x9 : Int32} {x10 : Int32} {x11 : Int32} {s0 : Int64} {mc ms : Nat} {o : mm_O} {σ' : mm_S} {r : Int32} {I1 : Nat → Nat → Int32} {J1 : Nat → Nat → Int64} (hcall : mm_Call l X 107 d [.ref 26, .int x1, .int x5, .int x10] (mm_Λ, I, J) 0 0 (.inl (some (.int r))) (mm_Λ, I1, J1)) (hr : mm_Run l X 124 (d + 1) 217 [.ref 26, .int x1, .int x2, .long x3, .null, .int x5, .long x6, .null, .int x8, .int x9, .int x10, .int x11, .long s0, .null] [.int r, .ref 26] (mm_Λ, I1, J1) mc ms o σ') : mm_Run l X 124 (d + 1) 205 [.ref 26, .int x1, .int x2, .long x3, .null, .int x5, .long x6, .null, .int x8, .int x9, .int x10, .int x11, .null, .null] [.long s0] (mm_Λ, I, J) mc ms o σ' := by
  refine mm_lstore d124_205 (by decide +kernel) ?_
  refine mm_aload_n (v := .ref 26) d124_207 rfl (Or.inl ⟨_, rfl⟩) ?_
  refine mm_aload_n (v := .ref 26) d124_208 rfl (Or.inl ⟨_, rfl⟩) ?_
  refine mm_iload_n d124_209 rfl ?_
  refine mm_iload d124_210 rfl ?_
  refine mm_iload d124_212 rfl ?_
  exact mm_callV0 (as := [.int x1, .int x5, .int x10]) (S := [.ref 26]) d124_214 okm107 ln124_75 im107 se107 rfl ⟨_, _, rfl⟩ rfl rfl (Nat.le_of_ble_eq_true rfl) (Nat.le_of_ble_eq_true rfl) hcall hr
theorem b124_217 {l : Launch} {X : Nat × (Nat → Int32)} {d : Nat} {I : Nat → Nat → Int32} {J : Nat → Nat → Int64} {x1 : Int32} {x2 : Int32} {x3 : Int64} {x5 : Int32} {x6 : Int64} {x8 : Int32} {x9 : Int32} {x10 : Int32} {x11 : Int32} {x12 : Int64} {s0 : Int32} {mc ms : Nat} {o : mm_O} {σ' : mm_S} (n223 : ¬ x12 = 0) {I1 : Nat → Nat → Int32} {J1 : Nat → Nat → Int64} (hcall : mm_Call l X 119 d [.ref 26, .int s0, .int x11, .long (x6 - x6 / x12 * x12)] (mm_Λ, I, J) 0 0 (.inl none) (mm_Λ, I1, J1)) (hr : mm_Run l X 124 (d + 1) 227 [.ref 26, .int x1, .int x2, .long x3, .null, .int x5, .long x6, .null, .int x8, .int x9, .int x10, .int x11, .long x12, .null] [] (mm_Λ, I1, J1) mc ms o σ') : mm_Run l X 124 (d + 1) 217 [.ref 26, .int x1, .int x2, .long x3, .null, .int x5, .long x6, .null, .int x8, .int x9, .int x10, .int x11, .long x12, .null] [.int s0, .ref 26] (mm_Λ, I, J) mc ms o σ' := by
  refine mm_iload d124_217 rfl ?_
  refine mm_lload d124_219 rfl ?_
  refine mm_lload d124_221 rfl ?_
  refine mm_lrem d124_223 n223 ?_
  exact mm_callV0 (as := [.int s0, .int x11, .long (x6 - x6 / x12 * x12)]) (S := []) d124_224 okm119 ln124_117 im119 se119 rfl ⟨_, _, rfl⟩ rfl rfl (Nat.le_of_ble_eq_true rfl) (Nat.le_of_ble_eq_true rfl) hcall hr
theorem b124_227 {l : Launch} {X : Nat × (Nat → Int32)} {d : Nat} {I : Nat → Nat → Int32} {J : Nat → Nat → Int64} {x1 : Int32} {x2 : Int32} {x3 : Int64} {x5 : Int32} {x6 : Int64} {x8 : Int32} {x9 : Int32} {x10 : Int32} {x11 : Int32} {x12 : Int64} {mc ms : Nat} {o : mm_O} {σ' : mm_S} (n231 : ¬ x12 = 0) (hr : mm_Run l X 124 (d + 1) 153 [.ref 26, .int x1, .int x2, .long x3, .null, .int x5, .long (x6 / x12), .null, .int x8, .int x9, .int (x10 + (-1)), .null, .null, .null] [] (mm_Λ, I, J) mc ms o σ') : mm_Run l X 124 (d + 1) 227 [.ref 26, .int x1, .int x2, .long x3, .null, .int x5, .long x6, .null, .int x8, .int x9, .int x10, .int x11, .long x12, .null] [] (mm_Λ, I, J) mc ms o σ' := by
  refine mm_lload d124_227 rfl ?_
  refine mm_lload d124_229 rfl ?_
  refine mm_ldiv d124_231 n231 ?_
  refine mm_lstore d124_232 (by decide +kernel) ?_
  refine mm_ii d124_234 cim1 rfl (by decide +kernel) ?_
  refine mm_goto (tgt := 153) d124_237 (by decide) ?_
  exact mm_forget hr (by exact ⟨rfl, rfl, rfl, rfl, rfl, rfl, rfl, rfl, rfl, trivial⟩)
theorem b124_240 {l : Launch} {X : Nat × (Nat → Int32)} {d : Nat} {I : Nat → Nat → Int32} {J : Nat → Nat → Int64} {x1 : Int32} {x2 : Int32} {x3 : Int64} {x5 : Int32} {x6 : Int64} {x8 : Int32} {x9 : Int32} {x10 : Int32} {mc ms : Nat}  : mm_Run l X 124 (d + 1) 240 [.ref 26, .int x1, .int x2, .long x3, .null, .int x5, .long x6, .null, .int x8, .int x9, .int x10, .null, .null, .null] [] (mm_Λ, I, J) mc ms (.inl none) (mm_Λ, I, J) := by
  exact mm_vreturn d124_240 rfl
theorem b125_0 {l : Launch} {X : Nat × (Nat → Int32)} {d : Nat} {I : Nat → Nat → Int32} {J : Nat → Nat → Int64} {x1 : Int32} {mc ms : Nat} {o : mm_O} {σ' : mm_S} (kt : x1 < 0 → mm_Run l X 125 d 26 [.ref 26, .int x1] [] (mm_Λ, (mm_set I 26 0 0), J) mc ms o σ') (kf : ¬ (x1 < 0) → mm_Run l X 125 d 9 [.ref 26, .int x1] [] (mm_Λ, (mm_set I 26 0 0), J) mc ms o σ') : mm_Run l X 125 d 0 [.ref 26, .int x1] [] (mm_Λ, I, J) mc ms o σ' := by
  refine mm_aload_n (v := .ref 26) d125_0 rfl (Or.inl ⟨_, rfl⟩) ?_
  refine mm_ic d125_1 ci0 ?_
  refine mm_putfield d125_2 okc9 fk125_65 fp125_65 rfl rfl rfl ?_
  refine mm_iload_n d125_5 rfl ?_
  refine mm_if (tgt := 26) d125_6 (by decide) (fun h => ?_) (fun h => ?_)
  · exact kt h
  · exact kf h
theorem b125_9 {l : Launch} {X : Nat × (Nat → Int32)} {d : Nat} {I : Nat → Nat → Int32} {J : Nat → Nat → Int64} {x1 : Int32} {mc ms : Nat} {o : mm_O} {σ' : mm_S} (kt : (I 26 8) ≤ x1 → mm_Run l X 125 d 26 [.ref 26, .int x1] [] (mm_Λ, I, J) mc ms o σ') (kf : ¬ ((I 26 8) ≤ x1) → mm_Run l X 125 d 17 [.ref 26, .int x1] [] (mm_Λ, I, J) mc ms o σ') : mm_Run l X 125 d 9 [.ref 26, .int x1] [] (mm_Λ, I, J) mc ms o σ' := by
  refine mm_iload_n d125_9 rfl ?_
  refine mm_aload_n (v := .ref 26) d125_10 rfl (Or.inl ⟨_, rfl⟩) ?_
  refine mm_getfield (v := .int (I 26 8)) d125_11 okc9 fk125_132 rfl rfl (by nofun) ?_
  refine mm_icmp (tgt := 26) d125_14 (by decide) (fun h => ?_) (fun h => ?_)
  · exact kt h
  · exact kf h
theorem b125_17 {l : Launch} {X : Nat × (Nat → Int32)} {d : Nat} {I : Nat → Nat → Int32} {J : Nat → Nat → Int64} {x1 : Int32} {mc ms : Nat} {o : mm_O} {σ' : mm_S} (i22 : vp_in x1 256) (hr : mm_Run l X 125 d 27 [.ref 26, .int x1] [.int (I 34 x1.toNatClampNeg)] (mm_Λ, I, J) mc ms o σ') : mm_Run l X 125 d 17 [.ref 26, .int x1] [] (mm_Λ, I, J) mc ms o σ' := by
  refine mm_aload_n (v := .ref 26) d125_17 rfl (Or.inl ⟨_, rfl⟩) ?_
  refine mm_getfield (v := .ref 34) d125_18 okc9 fk125_32 rfl rfl (by nofun) ?_
  refine mm_iload_n d125_21 rfl ?_
  refine mm_iaload d125_22 rfl i22 ?_
  refine mm_goto (tgt := 27) d125_23 (by decide) ?_
  exact hr
theorem b125_26 {l : Launch} {X : Nat × (Nat → Int32)} {d : Nat} {I : Nat → Nat → Int32} {J : Nat → Nat → Int64} {x1 : Int32} {mc ms : Nat} {o : mm_O} {σ' : mm_S} (hr : mm_Run l X 125 d 27 [.ref 26, .int x1] [.int (-1)] (mm_Λ, I, J) mc ms o σ') : mm_Run l X 125 d 26 [.ref 26, .int x1] [] (mm_Λ, I, J) mc ms o σ' := by
  refine mm_ic d125_26 cim1 ?_
  exact hr
theorem b125_27 {l : Launch} {X : Nat × (Nat → Int32)} {d : Nat} {I : Nat → Nat → Int32} {J : Nat → Nat → Int64} {x1 : Int32} {s0 : Int32} {mc ms : Nat}  : mm_Run l X 125 d 27 [.ref 26, .int x1] [.int s0] (mm_Λ, I, J) mc ms (.inl (some (.int s0))) (mm_Λ, I, J) := by
  exact mm_ireturn d125_27 rfl
theorem b126_0 {l : Launch} {X : Nat × (Nat → Int32)} {d : Nat} {I : Nat → Nat → Int32} {J : Nat → Nat → Int64} {x1 : Int32} {x2 : Int32} {mc ms : Nat} {o : mm_O} {σ' : mm_S} {r : Int32} {I1 : Nat → Nat → Int32} {J1 : Nat → Nat → Int64} (hcall : mm_Call l X 127 d [.int x1] (mm_Λ, I, J) 0 0 (.inl (some (.int r))) (mm_Λ, I1, J1)) (hr : mm_Run l X 126 (d + 1) 5 [.ref 26, .int x1, .int x2] [.int r, .ref 26] (mm_Λ, I1, J1) mc ms o σ') : mm_Run l X 126 (d + 1) 0 [.ref 26, .int x1, .int x2] [] (mm_Λ, I, J) mc ms o σ' := by
  refine mm_aload_n (v := .ref 26) d126_0 rfl (Or.inl ⟨_, rfl⟩) ?_
  refine mm_iload_n d126_1 rfl ?_
  exact mm_callS0 (as := [.int x1]) (S := [.ref 26]) d126_2 okm127 ln126_150 st127 rfl rfl (Nat.le_of_ble_eq_true rfl) (Nat.le_of_ble_eq_true rfl) hcall hr
theorem b126_5 {l : Launch} {X : Nat × (Nat → Int32)} {d : Nat} {I : Nat → Nat → Int32} {J : Nat → Nat → Int64} {x1 : Int32} {x2 : Int32} {s0 : Int32} {mc ms : Nat} {o : mm_O} {σ' : mm_S} (kt : s0 = 0 → mm_Run l X 126 (d + 1) 17 [.ref 26, .int x1, .int x2] [.ref 26] (mm_Λ, I, J) mc ms o σ') (kf : ¬ (s0 = 0) → mm_Run l X 126 (d + 1) 8 [.ref 26, .int x1, .int x2] [.ref 26] (mm_Λ, I, J) mc ms o σ') : mm_Run l X 126 (d + 1) 5 [.ref 26, .int x1, .int x2] [.int s0, .ref 26] (mm_Λ, I, J) mc ms o σ' := by
  refine mm_if (tgt := 17) d126_5 (by decide) (fun h => ?_) (fun h => ?_)
  · exact kt h
  · exact kf h
theorem b126_8 {l : Launch} {X : Nat × (Nat → Int32)} {d : Nat} {I : Nat → Nat → Int32} {J : Nat → Nat → Int64} {x1 : Int32} {x2 : Int32} {mc ms : Nat} {o : mm_O} {σ' : mm_S} (kt : x2 < 0 → mm_Run l X 126 (d + 1) 17 [.ref 26, .int x1, .int x2] [.ref 26] (mm_Λ, I, J) mc ms o σ') (kf : ¬ (x2 < 0) → mm_Run l X 126 (d + 1) 12 [.ref 26, .int x1, .int x2] [.ref 26] (mm_Λ, I, J) mc ms o σ') : mm_Run l X 126 (d + 1) 8 [.ref 26, .int x1, .int x2] [.ref 26] (mm_Λ, I, J) mc ms o σ' := by
  refine mm_iload_n d126_8 rfl ?_
  refine mm_if (tgt := 17) d126_9 (by decide) (fun h => ?_) (fun h => ?_)
  · exact kt h
  · exact kf h
theorem b126_12 {l : Launch} {X : Nat × (Nat → Int32)} {d : Nat} {I : Nat → Nat → Int32} {J : Nat → Nat → Int64} {x1 : Int32} {x2 : Int32} {mc ms : Nat} {o : mm_O} {σ' : mm_S} (kt : x2 ≤ 3 → mm_Run l X 126 (d + 1) 21 [.ref 26, .int x1, .int x2] [.ref 26] (mm_Λ, I, J) mc ms o σ') (kf : ¬ (x2 ≤ 3) → mm_Run l X 126 (d + 1) 17 [.ref 26, .int x1, .int x2] [.ref 26] (mm_Λ, I, J) mc ms o σ') : mm_Run l X 126 (d + 1) 12 [.ref 26, .int x1, .int x2] [.ref 26] (mm_Λ, I, J) mc ms o σ' := by
  refine mm_iload_n d126_12 rfl ?_
  refine mm_ic d126_13 ci3 ?_
  refine mm_icmp (tgt := 21) d126_14 (by decide) (fun h => ?_) (fun h => ?_)
  · exact kt h
  · exact kf h
theorem b126_17 {l : Launch} {X : Nat × (Nat → Int32)} {d : Nat} {I : Nat → Nat → Int32} {J : Nat → Nat → Int64} {x1 : Int32} {x2 : Int32} {mc ms : Nat} {o : mm_O} {σ' : mm_S} (hr : mm_Run l X 126 (d + 1) 35 [.ref 26, .int x1, .int x2] [.int 1, .ref 26] (mm_Λ, I, J) mc ms o σ') : mm_Run l X 126 (d + 1) 17 [.ref 26, .int x1, .int x2] [.ref 26] (mm_Λ, I, J) mc ms o σ' := by
  refine mm_ic d126_17 ci1 ?_
  refine mm_goto (tgt := 35) d126_18 (by decide) ?_
  exact hr
theorem b126_21 {l : Launch} {X : Nat × (Nat → Int32)} {d : Nat} {I : Nat → Nat → Int32} {J : Nat → Nat → Int64} {x1 : Int32} {x2 : Int32} {mc ms : Nat} {o : mm_O} {σ' : mm_S} (kt : ¬ (I 26 14) = 20 → mm_Run l X 126 (d + 1) 34 [.ref 26, .int x1, .int x2] [.ref 26] (mm_Λ, I, J) mc ms o σ') (kf : ¬ (¬ (I 26 14) = 20) → mm_Run l X 126 (d + 1) 30 [.ref 26, .int x1, .int x2] [.ref 26] (mm_Λ, I, J) mc ms o σ') : mm_Run l X 126 (d + 1) 21 [.ref 26, .int x1, .int x2] [.ref 26] (mm_Λ, I, J) mc ms o σ' := by
  refine mm_aload_n (v := .ref 26) d126_21 rfl (Or.inl ⟨_, rfl⟩) ?_
  refine mm_getfield (v := .int (I 26 14)) d126_22 okc9 fk126_144 rfl rfl (by nofun) ?_
  refine mm_bi d126_25 cb20 ?_
  refine mm_icmp (tgt := 34) d126_27 (by decide) (fun h => ?_) (fun h => ?_)
  · exact kt h
  · exact kf h
theorem b126_30 {l : Launch} {X : Nat × (Nat → Int32)} {d : Nat} {I : Nat → Nat → Int32} {J : Nat → Nat → Int64} {x1 : Int32} {x2 : Int32} {mc ms : Nat} {o : mm_O} {σ' : mm_S} (hr : mm_Run l X 126 (d + 1) 35 [.ref 26, .int x1, .int x2] [.int 2, .ref 26] (mm_Λ, I, J) mc ms o σ') : mm_Run l X 126 (d + 1) 30 [.ref 26, .int x1, .int x2] [.ref 26] (mm_Λ, I, J) mc ms o σ' := by
  refine mm_ic d126_30 ci2 ?_
  refine mm_goto (tgt := 35) d126_31 (by decide) ?_
  exact hr
theorem b126_34 {l : Launch} {X : Nat × (Nat → Int32)} {d : Nat} {I : Nat → Nat → Int32} {J : Nat → Nat → Int64} {x1 : Int32} {x2 : Int32} {mc ms : Nat} {o : mm_O} {σ' : mm_S} (hr : mm_Run l X 126 (d + 1) 35 [.ref 26, .int x1, .int x2] [.int 0, .ref 26] (mm_Λ, I, J) mc ms o σ') : mm_Run l X 126 (d + 1) 34 [.ref 26, .int x1, .int x2] [.ref 26] (mm_Λ, I, J) mc ms o σ' := by
  refine mm_ic d126_34 ci0 ?_
  exact hr
theorem b126_35 {l : Launch} {X : Nat × (Nat → Int32)} {d : Nat} {I : Nat → Nat → Int32} {J : Nat → Nat → Int64} {x1 : Int32} {x2 : Int32} {s0 : Int32} {mc ms : Nat} {o : mm_O} {σ' : mm_S} (kt : s0 ≤ 0 → mm_Run l X 126 (d + 1) 49 [.ref 26, .int x1, .int x2] [] (mm_Λ, (mm_set I 26 0 s0), J) mc ms o σ') (kf : ¬ (s0 ≤ 0) → mm_Run l X 126 (d + 1) 45 [.ref 26, .int x1, .int x2] [] (mm_Λ, (mm_set I 26 0 s0), J) mc ms o σ') : mm_Run l X 126 (d + 1) 35 [.ref 26, .int x1, .int x2] [.int s0, .ref 26] (mm_Λ, I, J) mc ms o σ' := by
  refine mm_putfield d126_35 okc9 fk126_65 fp126_65 rfl rfl rfl ?_
  refine mm_aload_n (v := .ref 26) d126_38 rfl (Or.inl ⟨_, rfl⟩) ?_
  refine mm_getfield (v := .int s0) d126_39 okc9 fk126_65 rfl rfl (by nofun) ?_
  refine mm_if (tgt := 49) d126_42 (by decide) (fun h => ?_) (fun h => ?_)
  · exact kt h
  · exact kf h
theorem b126_45 {l : Launch} {X : Nat × (Nat → Int32)} {d : Nat} {I : Nat → Nat → Int32} {J : Nat → Nat → Int64} {x1 : Int32} {x2 : Int32} {mc ms : Nat} {o : mm_O} {σ' : mm_S} (hr : mm_Run l X 126 (d + 1) 56 [.ref 26, .int x1, .int x2] [.int 0] (mm_Λ, I, J) mc ms o σ') : mm_Run l X 126 (d + 1) 45 [.ref 26, .int x1, .int x2] [] (mm_Λ, I, J) mc ms o σ' := by
  refine mm_ic d126_45 ci0 ?_
  refine mm_goto (tgt := 56) d126_46 (by decide) ?_
  exact hr
theorem b126_49 {l : Launch} {X : Nat × (Nat → Int32)} {d : Nat} {I : Nat → Nat → Int32} {J : Nat → Nat → Int64} {x1 : Int32} {x2 : Int32} {mc ms : Nat} {o : mm_O} {σ' : mm_S} {r : Int32} {I1 : Nat → Nat → Int32} {J1 : Nat → Nat → Int64} (hcall : mm_Call l X 128 d [.ref 26, .int 0, .int x1, .int x2] (mm_Λ, I, J) 0 0 (.inl (some (.int r))) (mm_Λ, I1, J1)) (hr : mm_Run l X 126 (d + 1) 56 [.ref 26, .int x1, .int x2] [.int r] (mm_Λ, I1, J1) mc ms o σ') : mm_Run l X 126 (d + 1) 49 [.ref 26, .int x1, .int x2] [] (mm_Λ, I, J) mc ms o σ' := by
  refine mm_aload_n (v := .ref 26) d126_49 rfl (Or.inl ⟨_, rfl⟩) ?_
  refine mm_ic d126_50 ci0 ?_
  refine mm_iload_n d126_51 rfl ?_
  refine mm_iload_n d126_52 rfl ?_
  exact mm_callV0 (as := [.int 0, .int x1, .int x2]) (S := []) d126_53 okm128 ln126_153 im128 se128 rfl ⟨_, _, rfl⟩ rfl rfl (Nat.le_of_ble_eq_true rfl) (Nat.le_of_ble_eq_true rfl) hcall hr
theorem b126_56 {l : Launch} {X : Nat × (Nat → Int32)} {d : Nat} {I : Nat → Nat → Int32} {J : Nat → Nat → Int64} {x1 : Int32} {x2 : Int32} {s0 : Int32} {mc ms : Nat}  : mm_Run l X 126 (d + 1) 56 [.ref 26, .int x1, .int x2] [.int s0] (mm_Λ, I, J) mc ms (.inl (some (.int s0))) (mm_Λ, I, J) := by
  exact mm_ireturn d126_56 rfl
theorem b127_0 {l : Launch} {X : Nat × (Nat → Int32)} {d : Nat} {I : Nat → Nat → Int32} {J : Nat → Nat → Int64} {x0 : Int32} {mc ms : Nat} {o : mm_O} {σ' : mm_S} (kt : x0 < 0 → mm_Run l X 127 (d + 1) 16 [.int x0, .null, .null] [] (mm_Λ, I, J) mc ms o σ') (kf : ¬ (x0 < 0) → mm_Run l X 127 (d + 1) 4 [.int x0, .null, .null] [] (mm_Λ, I, J) mc ms o σ') : mm_Run l X 127 (d + 1) 0 [.int x0, .null, .null] [] (mm_Λ, I, J) mc ms o σ' := by
  refine mm_iload_n d127_0 rfl ?_
  refine mm_if (tgt := 16) d127_1 (by decide) (fun h => ?_) (fun h => ?_)
  · exact kt h
  · exact kf h
theorem b127_4 {l : Launch} {X : Nat × (Nat → Int32)} {d : Nat} {I : Nat → Nat → Int32} {J : Nat → Nat → Int64} {x0 : Int32} {mc ms : Nat} {o : mm_O} {σ' : mm_S} {r : Int32} {I1 : Nat → Nat → Int32} {J1 : Nat → Nat → Int64} (hcall : mm_Call l X 120 d [.int x0] (mm_Λ, I, J) 0 0 (.inl (some (.int r))) (mm_Λ, I1, J1)) (hr : mm_Run l X 127 (d + 1) 8 [.int x0, .null, .null] [.int r] (mm_Λ, I1, J1) mc ms o σ') : mm_Run l X 127 (d + 1) 4 [.int x0, .null, .null] [] (mm_Λ, I, J) mc ms o σ' := by
  refine mm_iload_n d127_4 rfl ?_
  exact mm_callS0 (as := [.int x0]) (S := []) d127_5 okm120 ln127_124 st120 rfl rfl (Nat.le_of_ble_eq_true rfl) (Nat.le_of_ble_eq_true rfl) hcall hr
theorem b127_8 {l : Launch} {X : Nat × (Nat → Int32)} {d : Nat} {I : Nat → Nat → Int32} {J : Nat → Nat → Int64} {x0 : Int32} {s0 : Int32} {mc ms : Nat} {o : mm_O} {σ' : mm_S} (kt : 4 < s0 → mm_Run l X 127 (d + 1) 16 [.int x0, .null, .null] [] (mm_Λ, I, J) mc ms o σ') (kf : ¬ (4 < s0) → mm_Run l X 127 (d + 1) 12 [.int x0, .null, .null] [] (mm_Λ, I, J) mc ms o σ') : mm_Run l X 127 (d + 1) 8 [.int x0, .null, .null] [.int s0] (mm_Λ, I, J) mc ms o σ' := by
  refine mm_ic d127_8 ci4 ?_
  refine mm_icmp (tgt := 16) d127_9 (by decide) (fun h => ?_) (fun h => ?_)
  · exact kt h
  · exact kf h
theorem b127_12 {l : Launch} {X : Nat × (Nat → Int32)} {d : Nat} {I : Nat → Nat → Int32} {J : Nat → Nat → Int64} {x0 : Int32} {mc ms : Nat} {o : mm_O} {σ' : mm_S} (hr : mm_Run l X 127 (d + 1) 17 [.int x0, .null, .null] [.int 1] (mm_Λ, I, J) mc ms o σ') : mm_Run l X 127 (d + 1) 12 [.int x0, .null, .null] [] (mm_Λ, I, J) mc ms o σ' := by
  refine mm_ic d127_12 ci1 ?_
  refine mm_goto (tgt := 17) d127_13 (by decide) ?_
  exact hr
theorem b127_16 {l : Launch} {X : Nat × (Nat → Int32)} {d : Nat} {I : Nat → Nat → Int32} {J : Nat → Nat → Int64} {x0 : Int32} {mc ms : Nat} {o : mm_O} {σ' : mm_S} (hr : mm_Run l X 127 (d + 1) 17 [.int x0, .null, .null] [.int 0] (mm_Λ, I, J) mc ms o σ') : mm_Run l X 127 (d + 1) 16 [.int x0, .null, .null] [] (mm_Λ, I, J) mc ms o σ' := by
  refine mm_ic d127_16 ci0 ?_
  exact hr
theorem b127_17 {l : Launch} {X : Nat × (Nat → Int32)} {d : Nat} {I : Nat → Nat → Int32} {J : Nat → Nat → Int64} {x0 : Int32} {s0 : Int32} {mc ms : Nat} {o : mm_O} {σ' : mm_S} (hr : mm_Run l X 127 (d + 1) 20 [.int x0, .int s0, .int x0] [] (mm_Λ, I, J) mc ms o σ') : mm_Run l X 127 (d + 1) 17 [.int x0, .null, .null] [.int s0] (mm_Λ, I, J) mc ms o σ' := by
  refine mm_istore_n d127_17 (by decide +kernel) ?_
  refine mm_iload_n d127_18 rfl ?_
  refine mm_istore_n d127_19 (by decide +kernel) ?_
  exact hr
theorem b127_20 {l : Launch} {X : Nat × (Nat → Int32)} {d : Nat} {I : Nat → Nat → Int32} {J : Nat → Nat → Int64} {x0 : Int32} {x1 : Int32} {x2 : Int32} {mc ms : Nat} {o : mm_O} {σ' : mm_S} (kt : x2 ≤ 0 → mm_Run l X 127 (d + 1) 52 [.int x0, .int x1, .int x2] [] (mm_Λ, I, J) mc ms o σ') (kf : ¬ (x2 ≤ 0) → mm_Run l X 127 (d + 1) 24 [.int x0, .int x1, .int x2] [] (mm_Λ, I, J) mc ms o σ') : mm_Run l X 127 (d + 1) 20 [.int x0, .int x1, .int x2] [] (mm_Λ, I, J) mc ms o σ' := by
  refine mm_iload_n d127_20 rfl ?_
  refine mm_if (tgt := 52) d127_21 (by decide) (fun h => ?_) (fun h => ?_)
  · exact kt h
  · exact kf h
theorem b127_24 {l : Launch} {X : Nat × (Nat → Int32)} {d : Nat} {I : Nat → Nat → Int32} {J : Nat → Nat → Int64} {x0 : Int32} {x1 : Int32} {x2 : Int32} {mc ms : Nat} {o : mm_O} {σ' : mm_S} (kt : x1 = 0 → mm_Run l X 127 (d + 1) 41 [.int x0, .int x1, .int x2] [] (mm_Λ, I, J) mc ms o σ') (kf : ¬ (x1 = 0) → mm_Run l X 127 (d + 1) 28 [.int x0, .int x1, .int x2] [] (mm_Λ, I, J) mc ms o σ') : mm_Run l X 127 (d + 1) 24 [.int x0, .int x1, .int x2] [] (mm_Λ, I, J) mc ms o σ' := by
  refine mm_iload_n d127_24 rfl ?_
  refine mm_if (tgt := 41) d127_25 (by decide) (fun h => ?_) (fun h => ?_)
  · exact kt h
  · exact kf h
theorem b127_28 {l : Launch} {X : Nat × (Nat → Int32)} {d : Nat} {I : Nat → Nat → Int32} {J : Nat → Nat → Int64} {x0 : Int32} {x1 : Int32} {x2 : Int32} {mc ms : Nat} {o : mm_O} {σ' : mm_S} (kt : 3 ≤ ((x2 - 1) - (x2 - 1) / 4 * 4) → mm_Run l X 127 (d + 1) 41 [.int x0, .int x1, .int x2] [] (mm_Λ, I, J) mc ms o σ') (kf : ¬ (3 ≤ ((x2 - 1) - (x2 - 1) / 4 * 4)) → mm_Run l X 127 (d + 1) 37 [.int x0, .int x1, .int x2] [] (mm_Λ, I, J) mc ms o σ') : mm_Run l X 127 (d + 1) 28 [.int x0, .int x1, .int x2] [] (mm_Λ, I, J) mc ms o σ' := by
  refine mm_iload_n d127_28 rfl ?_
  refine mm_ic d127_29 ci1 ?_
  refine mm_isub d127_30 ?_
  refine mm_ic d127_31 ci4 ?_
  refine mm_irem d127_32 (by decide) ?_
  refine mm_ic d127_33 ci3 ?_
  refine mm_icmp (tgt := 41) d127_34 (by decide) (fun h => ?_) (fun h => ?_)
  · exact kt h
  · exact kf h
theorem b127_37 {l : Launch} {X : Nat × (Nat → Int32)} {d : Nat} {I : Nat → Nat → Int32} {J : Nat → Nat → Int64} {x0 : Int32} {x1 : Int32} {x2 : Int32} {mc ms : Nat} {o : mm_O} {σ' : mm_S} (hr : mm_Run l X 127 (d + 1) 42 [.int x0, .int x1, .int x2] [.int 1] (mm_Λ, I, J) mc ms o σ') : mm_Run l X 127 (d + 1) 37 [.int x0, .int x1, .int x2] [] (mm_Λ, I, J) mc ms o σ' := by
  refine mm_ic d127_37 ci1 ?_
  refine mm_goto (tgt := 42) d127_38 (by decide) ?_
  exact hr
theorem b127_41 {l : Launch} {X : Nat × (Nat → Int32)} {d : Nat} {I : Nat → Nat → Int32} {J : Nat → Nat → Int64} {x0 : Int32} {x1 : Int32} {x2 : Int32} {mc ms : Nat} {o : mm_O} {σ' : mm_S} (hr : mm_Run l X 127 (d + 1) 42 [.int x0, .int x1, .int x2] [.int 0] (mm_Λ, I, J) mc ms o σ') : mm_Run l X 127 (d + 1) 41 [.int x0, .int x1, .int x2] [] (mm_Λ, I, J) mc ms o σ' := by
  refine mm_ic d127_41 ci0 ?_
  exact hr
theorem b127_42 {l : Launch} {X : Nat × (Nat → Int32)} {d : Nat} {I : Nat → Nat → Int32} {J : Nat → Nat → Int64} {x0 : Int32} {x1 : Int32} {x2 : Int32} {s0 : Int32} {mc ms : Nat} {o : mm_O} {σ' : mm_S} (hr : mm_Run l X 127 (d + 1) 20 [.int x0, .int s0, .int ((x2 - 1) / 4)] [] (mm_Λ, I, J) mc ms o σ') : mm_Run l X 127 (d + 1) 42 [.int x0, .int x1, .int x2] [.int s0] (mm_Λ, I, J) mc ms o σ' := by
  refine mm_istore_n d127_42 (by decide +kernel) ?_
  refine mm_iload_n d127_43 rfl ?_
  refine mm_ic d127_44 ci1 ?_
  refine mm_isub d127_45 ?_
  refine mm_ic d127_46 ci4 ?_
  refine mm_idiv d127_47 (by decide) ?_
  refine mm_istore_n d127_48 (by decide +kernel) ?_
  refine mm_goto (tgt := 20) d127_49 (by decide) ?_
  exact hr
theorem b127_52 {l : Launch} {X : Nat × (Nat → Int32)} {d : Nat} {I : Nat → Nat → Int32} {J : Nat → Nat → Int64} {x0 : Int32} {x1 : Int32} {x2 : Int32} {mc ms : Nat} (hz : x1 = 0 ∨ x1 = 1) : mm_Run l X 127 (d + 1) 52 [.int x0, .int x1, .int x2] [] (mm_Λ, I, J) mc ms (.inl (some (.int x1))) (mm_Λ, I, J) := by
  refine mm_iload_n d127_52 rfl ?_
  exact mm_zreturn d127_53 rfl hz
theorem b128_0 {l : Launch} {X : Nat × (Nat → Int32)} {d : Nat} {I : Nat → Nat → Int32} {J : Nat → Nat → Int64} {x1 : Int32} {x2 : Int32} {x3 : Int32} {mc ms : Nat} (i9 : vp_in (I 26 14) 20) (i19 : vp_in (I 26 14) 20) (i29 : vp_in (I 26 14) 20) (i42 : vp_in (I 26 19) 20) : mm_Run l X 128 d 0 [.ref 26, .int x1, .int x2, .int x3] [] (mm_Λ, I, J) mc ms (.inl (some (.int ((I 26 19) + 1)))) (mm_Λ, (mm_set (mm_set (mm_set (mm_set (mm_set (mm_set I 38 (I 26 14).toNatClampNeg x1) 39 (I 26 14).toNatClampNeg x2) 40 (I 26 14).toNatClampNeg x3) 42 (I 26 19).toNatClampNeg (I 26 14)) 26 14 ((I 26 14) + 1)) 26 19 ((I 26 19) + 1)), J) := by
  refine mm_aload_n (v := .ref 26) d128_0 rfl (Or.inl ⟨_, rfl⟩) ?_
  refine mm_getfield (v := .ref 38) d128_1 okc9 fk128_44 rfl rfl (by nofun) ?_
  refine mm_aload_n (v := .ref 26) d128_4 rfl (Or.inl ⟨_, rfl⟩) ?_
  refine mm_getfield (v := .int (I 26 14)) d128_5 okc9 fk128_144 rfl rfl (by nofun) ?_
  refine mm_iload_n d128_8 rfl ?_
  refine mm_iastore d128_9 rfl i9 ?_
  refine mm_aload_n (v := .ref 26) d128_10 rfl (Or.inl ⟨_, rfl⟩) ?_
  refine mm_getfield (v := .ref 39) d128_11 okc9 fk128_47 rfl rfl (by nofun) ?_
  refine mm_aload_n (v := .ref 26) d128_14 rfl (Or.inl ⟨_, rfl⟩) ?_
  refine mm_getfield (v := .int (I 26 14)) d128_15 okc9 fk128_144 rfl rfl (by nofun) ?_
  refine mm_iload_n d128_18 rfl ?_
  refine mm_iastore d128_19 rfl i19 ?_
  refine mm_aload_n (v := .ref 26) d128_20 rfl (Or.inl ⟨_, rfl⟩) ?_
  refine mm_getfield (v := .ref 40) d128_21 okc9 fk128_50 rfl rfl (by nofun) ?_
  refine mm_aload_n (v := .ref 26) d128_24 rfl (Or.inl ⟨_, rfl⟩) ?_
  refine mm_getfield (v := .int (I 26 14)) d128_25 okc9 fk128_144 rfl rfl (by nofun) ?_
  refine mm_iload_n d128_28 rfl ?_
  refine mm_iastore d128_29 rfl i29 ?_
  refine mm_aload_n (v := .ref 26) d128_30 rfl (Or.inl ⟨_, rfl⟩) ?_
  refine mm_getfield (v := .ref 42) d128_31 okc9 fk128_56 rfl rfl (by nofun) ?_
  refine mm_aload_n (v := .ref 26) d128_34 rfl (Or.inl ⟨_, rfl⟩) ?_
  refine mm_getfield (v := .int (I 26 19)) d128_35 okc9 fk128_147 rfl rfl (by nofun) ?_
  refine mm_aload_n (v := .ref 26) d128_38 rfl (Or.inl ⟨_, rfl⟩) ?_
  refine mm_getfield (v := .int (I 26 14)) d128_39 okc9 fk128_144 rfl rfl (by nofun) ?_
  refine mm_iastore d128_42 rfl i42 ?_
  refine mm_aload_n (v := .ref 26) d128_43 rfl (Or.inl ⟨_, rfl⟩) ?_
  refine mm_dup d128_44 rfl ?_
  refine mm_getfield (v := .int (I 26 14)) d128_45 okc9 fk128_144 rfl rfl (by nofun) ?_
  refine mm_ic d128_48 ci1 ?_
  refine mm_iadd d128_49 ?_
  refine mm_putfield d128_50 okc9 fk128_144 fp128_144 rfl rfl rfl ?_
  refine mm_aload_n (v := .ref 26) d128_53 rfl (Or.inl ⟨_, rfl⟩) ?_
  refine mm_dup d128_54 rfl ?_
  refine mm_getfield (v := .int (I 26 19)) d128_55 okc9 fk128_147 rfl rfl (by nofun) ?_
  refine mm_ic d128_58 ci1 ?_
  refine mm_iadd d128_59 ?_
  refine mm_putfield d128_60 okc9 fk128_147 fp128_147 rfl rfl rfl ?_
  refine mm_aload_n (v := .ref 26) d128_63 rfl (Or.inl ⟨_, rfl⟩) ?_
  refine mm_getfield (v := .int ((I 26 19) + 1)) d128_64 okc9 fk128_147 rfl rfl (by nofun) ?_
  exact mm_ireturn d128_67 rfl
theorem b129_0 {l : Launch} {X : Nat × (Nat → Int32)} {d : Nat} {I : Nat → Nat → Int32} {J : Nat → Nat → Int64} {x1 : Int32} {x2 : Int32} {mc ms : Nat} {o : mm_O} {σ' : mm_S} {r : Int32} {I1 : Nat → Nat → Int32} {J1 : Nat → Nat → Int64} (hcall : mm_Call l X 127 d [.int x1] (mm_Λ, I, J) 0 0 (.inl (some (.int r))) (mm_Λ, I1, J1)) (hr : mm_Run l X 129 (d + 1) 5 [.ref 26, .int x1, .int x2] [.int r, .ref 26] (mm_Λ, I1, J1) mc ms o σ') : mm_Run l X 129 (d + 1) 0 [.ref 26, .int x1, .int x2] [] (mm_Λ, I, J) mc ms o σ' := by
  refine mm_aload_n (v := .ref 26) d129_0 rfl (Or.inl ⟨_, rfl⟩) ?_
  refine mm_iload_n d129_1 rfl ?_
  exact mm_callS0 (as := [.int x1]) (S := [.ref 26]) d129_2 okm127 ln129_150 st127 rfl rfl (Nat.le_of_ble_eq_true rfl) (Nat.le_of_ble_eq_true rfl) hcall hr
theorem b129_5 {l : Launch} {X : Nat × (Nat → Int32)} {d : Nat} {I : Nat → Nat → Int32} {J : Nat → Nat → Int64} {x1 : Int32} {x2 : Int32} {s0 : Int32} {mc ms : Nat} {o : mm_O} {σ' : mm_S} (kt : s0 = 0 → mm_Run l X 129 (d + 1) 15 [.ref 26, .int x1, .int x2] [.ref 26] (mm_Λ, I, J) mc ms o σ') (kf : ¬ (s0 = 0) → mm_Run l X 129 (d + 1) 8 [.ref 26, .int x1, .int x2] [.ref 26] (mm_Λ, I, J) mc ms o σ') : mm_Run l X 129 (d + 1) 5 [.ref 26, .int x1, .int x2] [.int s0, .ref 26] (mm_Λ, I, J) mc ms o σ' := by
  refine mm_if (tgt := 15) d129_5 (by decide) (fun h => ?_) (fun h => ?_)
  · exact kt h
  · exact kf h
theorem b129_8 {l : Launch} {X : Nat × (Nat → Int32)} {d : Nat} {I : Nat → Nat → Int32} {J : Nat → Nat → Int64} {x1 : Int32} {x2 : Int32} {mc ms : Nat} {o : mm_O} {σ' : mm_S} {r : Int32} {I1 : Nat → Nat → Int32} {J1 : Nat → Nat → Int64} (hcall : mm_Call l X 127 d [.int x2] (mm_Λ, I, J) 0 0 (.inl (some (.int r))) (mm_Λ, I1, J1)) (hr : mm_Run l X 129 (d + 1) 12 [.ref 26, .int x1, .int x2] [.int r, .ref 26] (mm_Λ, I1, J1) mc ms o σ') : mm_Run l X 129 (d + 1) 8 [.ref 26, .int x1, .int x2] [.ref 26] (mm_Λ, I, J) mc ms o σ' := by
  refine mm_iload_n d129_8 rfl ?_
  exact mm_callS0 (as := [.int x2]) (S := [.ref 26]) d129_9 okm127 ln129_150 st127 rfl rfl (Nat.le_of_ble_eq_true rfl) (Nat.le_of_ble_eq_true rfl) hcall hr
theorem b129_12 {l : Launch} {X : Nat × (Nat → Int32)} {d : Nat} {I : Nat → Nat → Int32} {J : Nat → Nat → Int64} {x1 : Int32} {x2 : Int32} {s0 : Int32} {mc ms : Nat} {o : mm_O} {σ' : mm_S} (kt : ¬ s0 = 0 → mm_Run l X 129 (d + 1) 19 [.ref 26, .int x1, .int x2] [.ref 26] (mm_Λ, I, J) mc ms o σ') (kf : ¬ (¬ s0 = 0) → mm_Run l X 129 (d + 1) 15 [.ref 26, .int x1, .int x2] [.ref 26] (mm_Λ, I, J) mc ms o σ') : mm_Run l X 129 (d + 1) 12 [.ref 26, .int x1, .int x2] [.int s0, .ref 26] (mm_Λ, I, J) mc ms o σ' := by
  refine mm_if (tgt := 19) d129_12 (by decide) (fun h => ?_) (fun h => ?_)
  · exact kt h
  · exact kf h
theorem b129_15 {l : Launch} {X : Nat × (Nat → Int32)} {d : Nat} {I : Nat → Nat → Int32} {J : Nat → Nat → Int64} {x1 : Int32} {x2 : Int32} {mc ms : Nat} {o : mm_O} {σ' : mm_S} (hr : mm_Run l X 129 (d + 1) 33 [.ref 26, .int x1, .int x2] [.int 1, .ref 26] (mm_Λ, I, J) mc ms o σ') : mm_Run l X 129 (d + 1) 15 [.ref 26, .int x1, .int x2] [.ref 26] (mm_Λ, I, J) mc ms o σ' := by
  refine mm_ic d129_15 ci1 ?_
  refine mm_goto (tgt := 33) d129_16 (by decide) ?_
  exact hr
theorem b129_19 {l : Launch} {X : Nat × (Nat → Int32)} {d : Nat} {I : Nat → Nat → Int32} {J : Nat → Nat → Int64} {x1 : Int32} {x2 : Int32} {mc ms : Nat} {o : mm_O} {σ' : mm_S} (kt : ¬ (I 26 14) = 20 → mm_Run l X 129 (d + 1) 32 [.ref 26, .int x1, .int x2] [.ref 26] (mm_Λ, I, J) mc ms o σ') (kf : ¬ (¬ (I 26 14) = 20) → mm_Run l X 129 (d + 1) 28 [.ref 26, .int x1, .int x2] [.ref 26] (mm_Λ, I, J) mc ms o σ') : mm_Run l X 129 (d + 1) 19 [.ref 26, .int x1, .int x2] [.ref 26] (mm_Λ, I, J) mc ms o σ' := by
  refine mm_aload_n (v := .ref 26) d129_19 rfl (Or.inl ⟨_, rfl⟩) ?_
  refine mm_getfield (v := .int (I 26 14)) d129_20 okc9 fk129_144 rfl rfl (by nofun) ?_
  refine mm_bi d129_23 cb20 ?_
  refine mm_icmp (tgt := 32) d129_25 (by decide) (fun h => ?_) (fun h => ?_)
  · exact kt h
  · exact kf h
theorem b129_28 {l : Launch} {X : Nat × (Nat → Int32)} {d : Nat} {I : Nat → Nat → Int32} {J : Nat → Nat → Int64} {x1 : Int32} {x2 : Int32} {mc ms : Nat} {o : mm_O} {σ' : mm_S} (hr : mm_Run l X 129 (d + 1) 33 [.ref 26, .int x1, .int x2] [.int 2, .ref 26] (mm_Λ, I, J) mc ms o σ') : mm_Run l X 129 (d + 1) 28 [.ref 26, .int x1, .int x2] [.ref 26] (mm_Λ, I, J) mc ms o σ' := by
  refine mm_ic d129_28 ci2 ?_
  refine mm_goto (tgt := 33) d129_29 (by decide) ?_
  exact hr
theorem b129_32 {l : Launch} {X : Nat × (Nat → Int32)} {d : Nat} {I : Nat → Nat → Int32} {J : Nat → Nat → Int64} {x1 : Int32} {x2 : Int32} {mc ms : Nat} {o : mm_O} {σ' : mm_S} (hr : mm_Run l X 129 (d + 1) 33 [.ref 26, .int x1, .int x2] [.int 0, .ref 26] (mm_Λ, I, J) mc ms o σ') : mm_Run l X 129 (d + 1) 32 [.ref 26, .int x1, .int x2] [.ref 26] (mm_Λ, I, J) mc ms o σ' := by
  refine mm_ic d129_32 ci0 ?_
  exact hr
theorem b129_33 {l : Launch} {X : Nat × (Nat → Int32)} {d : Nat} {I : Nat → Nat → Int32} {J : Nat → Nat → Int64} {x1 : Int32} {x2 : Int32} {s0 : Int32} {mc ms : Nat} {o : mm_O} {σ' : mm_S} (kt : s0 ≤ 0 → mm_Run l X 129 (d + 1) 47 [.ref 26, .int x1, .int x2] [] (mm_Λ, (mm_set I 26 0 s0), J) mc ms o σ') (kf : ¬ (s0 ≤ 0) → mm_Run l X 129 (d + 1) 43 [.ref 26, .int x1, .int x2] [] (mm_Λ, (mm_set I 26 0 s0), J) mc ms o σ') : mm_Run l X 129 (d + 1) 33 [.ref 26, .int x1, .int x2] [.int s0, .ref 26] (mm_Λ, I, J) mc ms o σ' := by
  refine mm_putfield d129_33 okc9 fk129_65 fp129_65 rfl rfl rfl ?_
  refine mm_aload_n (v := .ref 26) d129_36 rfl (Or.inl ⟨_, rfl⟩) ?_
  refine mm_getfield (v := .int s0) d129_37 okc9 fk129_65 rfl rfl (by nofun) ?_
  refine mm_if (tgt := 47) d129_40 (by decide) (fun h => ?_) (fun h => ?_)
  · exact kt h
  · exact kf h
theorem b129_43 {l : Launch} {X : Nat × (Nat → Int32)} {d : Nat} {I : Nat → Nat → Int32} {J : Nat → Nat → Int64} {x1 : Int32} {x2 : Int32} {mc ms : Nat} {o : mm_O} {σ' : mm_S} (hr : mm_Run l X 129 (d + 1) 54 [.ref 26, .int x1, .int x2] [.int 0] (mm_Λ, I, J) mc ms o σ') : mm_Run l X 129 (d + 1) 43 [.ref 26, .int x1, .int x2] [] (mm_Λ, I, J) mc ms o σ' := by
  refine mm_ic d129_43 ci0 ?_
  refine mm_goto (tgt := 54) d129_44 (by decide) ?_
  exact hr
theorem b129_47 {l : Launch} {X : Nat × (Nat → Int32)} {d : Nat} {I : Nat → Nat → Int32} {J : Nat → Nat → Int64} {x1 : Int32} {x2 : Int32} {mc ms : Nat} {o : mm_O} {σ' : mm_S} {r : Int32} {I1 : Nat → Nat → Int32} {J1 : Nat → Nat → Int64} (hcall : mm_Call l X 128 d [.ref 26, .int 1, .int x1, .int x2] (mm_Λ, I, J) 0 0 (.inl (some (.int r))) (mm_Λ, I1, J1)) (hr : mm_Run l X 129 (d + 1) 54 [.ref 26, .int x1, .int x2] [.int r] (mm_Λ, I1, J1) mc ms o σ') : mm_Run l X 129 (d + 1) 47 [.ref 26, .int x1, .int x2] [] (mm_Λ, I, J) mc ms o σ' := by
  refine mm_aload_n (v := .ref 26) d129_47 rfl (Or.inl ⟨_, rfl⟩) ?_
  refine mm_ic d129_48 ci1 ?_
  refine mm_iload_n d129_49 rfl ?_
  refine mm_iload_n d129_50 rfl ?_
  exact mm_callV0 (as := [.int 1, .int x1, .int x2]) (S := []) d129_51 okm128 ln129_153 im128 se128 rfl ⟨_, _, rfl⟩ rfl rfl (Nat.le_of_ble_eq_true rfl) (Nat.le_of_ble_eq_true rfl) hcall hr
theorem b129_54 {l : Launch} {X : Nat × (Nat → Int32)} {d : Nat} {I : Nat → Nat → Int32} {J : Nat → Nat → Int64} {x1 : Int32} {x2 : Int32} {s0 : Int32} {mc ms : Nat}  : mm_Run l X 129 (d + 1) 54 [.ref 26, .int x1, .int x2] [.int s0] (mm_Λ, I, J) mc ms (.inl (some (.int s0))) (mm_Λ, I, J) := by
  exact mm_ireturn d129_54 rfl
theorem b130_0 {l : Launch} {X : Nat × (Nat → Int32)} {d : Nat} {I : Nat → Nat → Int32} {J : Nat → Nat → Int64} {x1 : Int32} {mc ms : Nat} {o : mm_O} {σ' : mm_S} (kt : x1 < 0 → mm_Run l X 130 (d + 1) 10 [.ref 26, .int x1, .null, .null] [.ref 26] (mm_Λ, I, J) mc ms o σ') (kf : ¬ (x1 < 0) → mm_Run l X 130 (d + 1) 5 [.ref 26, .int x1, .null, .null] [.ref 26] (mm_Λ, I, J) mc ms o σ') : mm_Run l X 130 (d + 1) 0 [.ref 26, .int x1, .null, .null] [] (mm_Λ, I, J) mc ms o σ' := by
  refine mm_aload_n (v := .ref 26) d130_0 rfl (Or.inl ⟨_, rfl⟩) ?_
  refine mm_iload_n d130_1 rfl ?_
  refine mm_if (tgt := 10) d130_2 (by decide) (fun h => ?_) (fun h => ?_)
  · exact kt h
  · exact kf h
theorem b130_5 {l : Launch} {X : Nat × (Nat → Int32)} {d : Nat} {I : Nat → Nat → Int32} {J : Nat → Nat → Int64} {x1 : Int32} {mc ms : Nat} {o : mm_O} {σ' : mm_S} (kt : x1 ≤ 2 → mm_Run l X 130 (d + 1) 14 [.ref 26, .int x1, .null, .null] [.ref 26] (mm_Λ, I, J) mc ms o σ') (kf : ¬ (x1 ≤ 2) → mm_Run l X 130 (d + 1) 10 [.ref 26, .int x1, .null, .null] [.ref 26] (mm_Λ, I, J) mc ms o σ') : mm_Run l X 130 (d + 1) 5 [.ref 26, .int x1, .null, .null] [.ref 26] (mm_Λ, I, J) mc ms o σ' := by
  refine mm_iload_n d130_5 rfl ?_
  refine mm_ic d130_6 ci2 ?_
  refine mm_icmp (tgt := 14) d130_7 (by decide) (fun h => ?_) (fun h => ?_)
  · exact kt h
  · exact kf h
theorem b130_10 {l : Launch} {X : Nat × (Nat → Int32)} {d : Nat} {I : Nat → Nat → Int32} {J : Nat → Nat → Int64} {x1 : Int32} {mc ms : Nat} {o : mm_O} {σ' : mm_S} (hr : mm_Run l X 130 (d + 1) 45 [.ref 26, .int x1, .null, .null] [.int 1, .ref 26] (mm_Λ, I, J) mc ms o σ') : mm_Run l X 130 (d + 1) 10 [.ref 26, .int x1, .null, .null] [.ref 26] (mm_Λ, I, J) mc ms o σ' := by
  refine mm_ic d130_10 ci1 ?_
  refine mm_goto (tgt := 45) d130_11 (by decide) ?_
  exact hr
theorem b130_14 {l : Launch} {X : Nat × (Nat → Int32)} {d : Nat} {I : Nat → Nat → Int32} {J : Nat → Nat → Int64} {x1 : Int32} {mc ms : Nat} {o : mm_O} {σ' : mm_S} (kt : ¬ x1 = 2 → mm_Run l X 130 (d + 1) 27 [.ref 26, .int x1, .null, .null] [.int (I 26 19), .ref 26] (mm_Λ, I, J) mc ms o σ') (kf : ¬ (¬ x1 = 2) → mm_Run l X 130 (d + 1) 23 [.ref 26, .int x1, .null, .null] [.int (I 26 19), .ref 26] (mm_Λ, I, J) mc ms o σ') : mm_Run l X 130 (d + 1) 14 [.ref 26, .int x1, .null, .null] [.ref 26] (mm_Λ, I, J) mc ms o σ' := by
  refine mm_aload_n (v := .ref 26) d130_14 rfl (Or.inl ⟨_, rfl⟩) ?_
  refine mm_getfield (v := .int (I 26 19)) d130_15 okc9 fk130_147 rfl rfl (by nofun) ?_
  refine mm_iload_n d130_18 rfl ?_
  refine mm_ic d130_19 ci2 ?_
  refine mm_icmp (tgt := 27) d130_20 (by decide) (fun h => ?_) (fun h => ?_)
  · exact kt h
  · exact kf h
theorem b130_23 {l : Launch} {X : Nat × (Nat → Int32)} {d : Nat} {I : Nat → Nat → Int32} {J : Nat → Nat → Int64} {x1 : Int32} {s0 : Int32} {mc ms : Nat} {o : mm_O} {σ' : mm_S} (hr : mm_Run l X 130 (d + 1) 28 [.ref 26, .int x1, .null, .null] [.int 1, .int s0, .ref 26] (mm_Λ, I, J) mc ms o σ') : mm_Run l X 130 (d + 1) 23 [.ref 26, .int x1, .null, .null] [.int s0, .ref 26] (mm_Λ, I, J) mc ms o σ' := by
  refine mm_ic d130_23 ci1 ?_
  refine mm_goto (tgt := 28) d130_24 (by decide) ?_
  exact hr
theorem b130_27 {l : Launch} {X : Nat × (Nat → Int32)} {d : Nat} {I : Nat → Nat → Int32} {J : Nat → Nat → Int64} {x1 : Int32} {s0 : Int32} {mc ms : Nat} {o : mm_O} {σ' : mm_S} (hr : mm_Run l X 130 (d + 1) 28 [.ref 26, .int x1, .null, .null] [.int 2, .int s0, .ref 26] (mm_Λ, I, J) mc ms o σ') : mm_Run l X 130 (d + 1) 27 [.ref 26, .int x1, .null, .null] [.int s0, .ref 26] (mm_Λ, I, J) mc ms o σ' := by
  refine mm_ic d130_27 ci2 ?_
  exact hr
theorem b130_28 {l : Launch} {X : Nat × (Nat → Int32)} {d : Nat} {I : Nat → Nat → Int32} {J : Nat → Nat → Int64} {x1 : Int32} {s0 : Int32} {s1 : Int32} {mc ms : Nat} {o : mm_O} {σ' : mm_S} (kt : s1 < s0 → mm_Run l X 130 (d + 1) 40 [.ref 26, .int x1, .null, .null] [.ref 26] (mm_Λ, I, J) mc ms o σ') (kf : ¬ (s1 < s0) → mm_Run l X 130 (d + 1) 31 [.ref 26, .int x1, .null, .null] [.ref 26] (mm_Λ, I, J) mc ms o σ') : mm_Run l X 130 (d + 1) 28 [.ref 26, .int x1, .null, .null] [.int s0, .int s1, .ref 26] (mm_Λ, I, J) mc ms o σ' := by
  refine mm_icmp (tgt := 40) d130_28 (by decide) (fun h => ?_) (fun h => ?_)
  · exact kt h
  · exact kf h
theorem b130_31 {l : Launch} {X : Nat × (Nat → Int32)} {d : Nat} {I : Nat → Nat → Int32} {J : Nat → Nat → Int64} {x1 : Int32} {mc ms : Nat} {o : mm_O} {σ' : mm_S} (kt : ¬ (I 26 14) = 20 → mm_Run l X 130 (d + 1) 44 [.ref 26, .int x1, .null, .null] [.ref 26] (mm_Λ, I, J) mc ms o σ') (kf : ¬ (¬ (I 26 14) = 20) → mm_Run l X 130 (d + 1) 40 [.ref 26, .int x1, .null, .null] [.ref 26] (mm_Λ, I, J) mc ms o σ') : mm_Run l X 130 (d + 1) 31 [.ref 26, .int x1, .null, .null] [.ref 26] (mm_Λ, I, J) mc ms o σ' := by
  refine mm_aload_n (v := .ref 26) d130_31 rfl (Or.inl ⟨_, rfl⟩) ?_
  refine mm_getfield (v := .int (I 26 14)) d130_32 okc9 fk130_144 rfl rfl (by nofun) ?_
  refine mm_bi d130_35 cb20 ?_
  refine mm_icmp (tgt := 44) d130_37 (by decide) (fun h => ?_) (fun h => ?_)
  · exact kt h
  · exact kf h
theorem b130_40 {l : Launch} {X : Nat × (Nat → Int32)} {d : Nat} {I : Nat → Nat → Int32} {J : Nat → Nat → Int64} {x1 : Int32} {mc ms : Nat} {o : mm_O} {σ' : mm_S} (hr : mm_Run l X 130 (d + 1) 45 [.ref 26, .int x1, .null, .null] [.int 2, .ref 26] (mm_Λ, I, J) mc ms o σ') : mm_Run l X 130 (d + 1) 40 [.ref 26, .int x1, .null, .null] [.ref 26] (mm_Λ, I, J) mc ms o σ' := by
  refine mm_ic d130_40 ci2 ?_
  refine mm_goto (tgt := 45) d130_41 (by decide) ?_
  exact hr
theorem b130_44 {l : Launch} {X : Nat × (Nat → Int32)} {d : Nat} {I : Nat → Nat → Int32} {J : Nat → Nat → Int64} {x1 : Int32} {mc ms : Nat} {o : mm_O} {σ' : mm_S} (hr : mm_Run l X 130 (d + 1) 45 [.ref 26, .int x1, .null, .null] [.int 0, .ref 26] (mm_Λ, I, J) mc ms o σ') : mm_Run l X 130 (d + 1) 44 [.ref 26, .int x1, .null, .null] [.ref 26] (mm_Λ, I, J) mc ms o σ' := by
  refine mm_ic d130_44 ci0 ?_
  exact hr
theorem b130_45 {l : Launch} {X : Nat × (Nat → Int32)} {d : Nat} {I : Nat → Nat → Int32} {J : Nat → Nat → Int64} {x1 : Int32} {s0 : Int32} {mc ms : Nat} {o : mm_O} {σ' : mm_S} (kt : s0 ≤ 0 → mm_Run l X 130 (d + 1) 57 [.ref 26, .int x1, .null, .null] [] (mm_Λ, (mm_set I 26 0 s0), J) mc ms o σ') (kf : ¬ (s0 ≤ 0) → mm_Run l X 130 (d + 1) 55 [.ref 26, .int x1, .null, .null] [] (mm_Λ, (mm_set I 26 0 s0), J) mc ms o σ') : mm_Run l X 130 (d + 1) 45 [.ref 26, .int x1, .null, .null] [.int s0, .ref 26] (mm_Λ, I, J) mc ms o σ' := by
  refine mm_putfield d130_45 okc9 fk130_65 fp130_65 rfl rfl rfl ?_
  refine mm_aload_n (v := .ref 26) d130_48 rfl (Or.inl ⟨_, rfl⟩) ?_
  refine mm_getfield (v := .int s0) d130_49 okc9 fk130_65 rfl rfl (by nofun) ?_
  refine mm_if (tgt := 57) d130_52 (by decide) (fun h => ?_) (fun h => ?_)
  · exact kt h
  · exact kf h
theorem b130_55 {l : Launch} {X : Nat × (Nat → Int32)} {d : Nat} {I : Nat → Nat → Int32} {J : Nat → Nat → Int64} {x1 : Int32} {mc ms : Nat}  : mm_Run l X 130 (d + 1) 55 [.ref 26, .int x1, .null, .null] [] (mm_Λ, I, J) mc ms (.inl (some (.int 0))) (mm_Λ, I, J) := by
  refine mm_ic d130_55 ci0 ?_
  exact mm_ireturn d130_56 rfl
theorem b130_57 {l : Launch} {X : Nat × (Nat → Int32)} {d : Nat} {I : Nat → Nat → Int32} {J : Nat → Nat → Int64} {x1 : Int32} {mc ms : Nat} {o : mm_O} {σ' : mm_S} (i67 : vp_in ((I 26 19) - 1) 20) (kt : ¬ x1 = 2 → mm_Run l X 130 (d + 1) 94 [.ref 26, .int x1, .int (I 42 ((I 26 19) - 1).toNatClampNeg), .null] [] (mm_Λ, (mm_set I 26 19 ((I 26 19) - 1)), J) mc ms o σ') (kf : ¬ (¬ x1 = 2) → mm_Run l X 130 (d + 1) 84 [.ref 26, .int x1, .int (I 42 ((I 26 19) - 1).toNatClampNeg), .null] [] (mm_Λ, (mm_set I 26 19 ((I 26 19) - 1)), J) mc ms o σ') : mm_Run l X 130 (d + 1) 57 [.ref 26, .int x1, .null, .null] [] (mm_Λ, I, J) mc ms o σ' := by
  refine mm_aload_n (v := .ref 26) d130_57 rfl (Or.inl ⟨_, rfl⟩) ?_
  refine mm_getfield (v := .ref 42) d130_58 okc9 fk130_56 rfl rfl (by nofun) ?_
  refine mm_aload_n (v := .ref 26) d130_61 rfl (Or.inl ⟨_, rfl⟩) ?_
  refine mm_getfield (v := .int (I 26 19)) d130_62 okc9 fk130_147 rfl rfl (by nofun) ?_
  refine mm_ic d130_65 ci1 ?_
  refine mm_isub d130_66 ?_
  refine mm_iaload d130_67 rfl i67 ?_
  refine mm_istore_n d130_68 (by decide +kernel) ?_
  refine mm_aload_n (v := .ref 26) d130_69 rfl (Or.inl ⟨_, rfl⟩) ?_
  refine mm_dup d130_70 rfl ?_
  refine mm_getfield (v := .int (I 26 19)) d130_71 okc9 fk130_147 rfl rfl (by nofun) ?_
  refine mm_ic d130_74 ci1 ?_
  refine mm_isub d130_75 ?_
  refine mm_putfield d130_76 okc9 fk130_147 fp130_147 rfl rfl rfl ?_
  refine mm_iload_n d130_79 rfl ?_
  refine mm_ic d130_80 ci2 ?_
  refine mm_icmp (tgt := 94) d130_81 (by decide) (fun h => ?_) (fun h => ?_)
  · exact kt h
  · exact kf h
theorem b130_84 {l : Launch} {X : Nat × (Nat → Int32)} {d : Nat} {I : Nat → Nat → Int32} {J : Nat → Nat → Int64} {x1 : Int32} {x2 : Int32} {mc ms : Nat} {o : mm_O} {σ' : mm_S} {r : Int32} {I1 : Nat → Nat → Int32} {J1 : Nat → Nat → Int64} (hcall : mm_Call l X 128 d [.ref 26, .int (2 + x1), .int x2, .int x2] (mm_Λ, I, J) 0 0 (.inl (some (.int r))) (mm_Λ, I1, J1)) (hr : mm_Run l X 130 (d + 1) 93 [.ref 26, .int x1, .int x2, .null] [.int r] (mm_Λ, I1, J1) mc ms o σ') : mm_Run l X 130 (d + 1) 84 [.ref 26, .int x1, .int x2, .null] [] (mm_Λ, I, J) mc ms o σ' := by
  refine mm_aload_n (v := .ref 26) d130_84 rfl (Or.inl ⟨_, rfl⟩) ?_
  refine mm_ic d130_85 ci2 ?_
  refine mm_iload_n d130_86 rfl ?_
  refine mm_iadd d130_87 ?_
  refine mm_iload_n d130_88 rfl ?_
  refine mm_iload_n d130_89 rfl ?_
  exact mm_callV0 (as := [.int (2 + x1), .int x2, .int x2]) (S := []) d130_90 okm128 ln130_153 im128 se128 rfl ⟨_, _, rfl⟩ rfl rfl (Nat.le_of_ble_eq_true rfl) (Nat.le_of_ble_eq_true rfl) hcall hr
theorem b130_93 {l : Launch} {X : Nat × (Nat → Int32)} {d : Nat} {I : Nat → Nat → Int32} {J : Nat → Nat → Int64} {x1 : Int32} {x2 : Int32} {s0 : Int32} {mc ms : Nat}  : mm_Run l X 130 (d + 1) 93 [.ref 26, .int x1, .int x2, .null] [.int s0] (mm_Λ, I, J) mc ms (.inl (some (.int s0))) (mm_Λ, I, J) := by
  exact mm_ireturn d130_93 rfl
theorem b130_94 {l : Launch} {X : Nat × (Nat → Int32)} {d : Nat} {I : Nat → Nat → Int32} {J : Nat → Nat → Int64} {x1 : Int32} {x2 : Int32} {mc ms : Nat} {o : mm_O} {σ' : mm_S} (i104 : vp_in ((I 26 19) - 1) 20) {r : Int32} {I1 : Nat → Nat → Int32} {J1 : Nat → Nat → Int64} (hcall : mm_Call l X 128 d [.ref 26, .int (2 + x1), .int (I 42 ((I 26 19) - 1).toNatClampNeg), .int x2] (mm_Λ, (mm_set I 26 19 ((I 26 19) - 1)), J) 0 0 (.inl (some (.int r))) (mm_Λ, I1, J1)) (hr : mm_Run l X 130 (d + 1) 125 [.ref 26, .int x1, .int x2, .int (I 42 ((I 26 19) - 1).toNatClampNeg)] [.int r] (mm_Λ, I1, J1) mc ms o σ') : mm_Run l X 130 (d + 1) 94 [.ref 26, .int x1, .int x2, .null] [] (mm_Λ, I, J) mc ms o σ' := by
  refine mm_aload_n (v := .ref 26) d130_94 rfl (Or.inl ⟨_, rfl⟩) ?_
  refine mm_getfield (v := .ref 42) d130_95 okc9 fk130_56 rfl rfl (by nofun) ?_
  refine mm_aload_n (v := .ref 26) d130_98 rfl (Or.inl ⟨_, rfl⟩) ?_
  refine mm_getfield (v := .int (I 26 19)) d130_99 okc9 fk130_147 rfl rfl (by nofun) ?_
  refine mm_ic d130_102 ci1 ?_
  refine mm_isub d130_103 ?_
  refine mm_iaload d130_104 rfl i104 ?_
  refine mm_istore_n d130_105 (by decide +kernel) ?_
  refine mm_aload_n (v := .ref 26) d130_106 rfl (Or.inl ⟨_, rfl⟩) ?_
  refine mm_dup d130_107 rfl ?_
  refine mm_getfield (v := .int (I 26 19)) d130_108 okc9 fk130_147 rfl rfl (by nofun) ?_
  refine mm_ic d130_111 ci1 ?_
  refine mm_isub d130_112 ?_
  refine mm_putfield d130_113 okc9 fk130_147 fp130_147 rfl rfl rfl ?_
  refine mm_aload_n (v := .ref 26) d130_116 rfl (Or.inl ⟨_, rfl⟩) ?_
  refine mm_ic d130_117 ci2 ?_
  refine mm_iload_n d130_118 rfl ?_
  refine mm_iadd d130_119 ?_
  refine mm_iload_n d130_120 rfl ?_
  refine mm_iload_n d130_121 rfl ?_
  exact mm_callV0 (as := [.int (2 + x1), .int (I 42 ((I 26 19) - 1).toNatClampNeg), .int x2]) (S := []) d130_122 okm128 ln130_153 im128 se128 rfl ⟨_, _, rfl⟩ rfl rfl (Nat.le_of_ble_eq_true rfl) (Nat.le_of_ble_eq_true rfl) hcall hr
theorem b130_125 {l : Launch} {X : Nat × (Nat → Int32)} {d : Nat} {I : Nat → Nat → Int32} {J : Nat → Nat → Int64} {x1 : Int32} {x2 : Int32} {x3 : Int32} {s0 : Int32} {mc ms : Nat}  : mm_Run l X 130 (d + 1) 125 [.ref 26, .int x1, .int x2, .int x3] [.int s0] (mm_Λ, I, J) mc ms (.inl (some (.int s0))) (mm_Λ, I, J) := by
  exact mm_ireturn d130_125 rfl
theorem b131_0 {l : Launch} {X : Nat × (Nat → Int32)} {d : Nat} {I : Nat → Nat → Int32} {J : Nat → Nat → Int64}  {mc ms : Nat}  : mm_Run l X 131 d 0 [.ref 26] [] (mm_Λ, I, J) mc ms (.inl none) (mm_Λ, (mm_set (mm_set (mm_set I 26 0 0) 26 19 0) 26 14 0), J) := by
  refine mm_aload_n (v := .ref 26) d131_0 rfl (Or.inl ⟨_, rfl⟩) ?_
  refine mm_ic d131_1 ci0 ?_
  refine mm_putfield d131_2 okc9 fk131_65 fp131_65 rfl rfl rfl ?_
  refine mm_aload_n (v := .ref 26) d131_5 rfl (Or.inl ⟨_, rfl⟩) ?_
  refine mm_ic d131_6 ci0 ?_
  refine mm_putfield d131_7 okc9 fk131_147 fp131_147 rfl rfl rfl ?_
  refine mm_aload_n (v := .ref 26) d131_10 rfl (Or.inl ⟨_, rfl⟩) ?_
  refine mm_ic d131_11 ci0 ?_
  refine mm_putfield d131_12 okc9 fk131_144 fp131_144 rfl rfl rfl ?_
  exact mm_vreturn d131_15 rfl
theorem b132_0 {l : Launch} {X : Nat × (Nat → Int32)} {d : Nat} {I : Nat → Nat → Int32} {J : Nat → Nat → Int64} {x1 : Int32} {x2 : Int32} {mc ms : Nat} {o : mm_O} {σ' : mm_S} {r : Int32} {I1 : Nat → Nat → Int32} {J1 : Nat → Nat → Int64} (hcall : mm_Call l X 104 d [.int x1, .int x2] (mm_Λ, I, J) 0 0 (.inl (some (.int r))) (mm_Λ, I1, J1)) (hr : mm_Run l X 132 (d + 1) 6 [.ref 26, .int x1, .int x2, .null, .null, .null] [.int r, .ref 26] (mm_Λ, I1, J1) mc ms o σ') : mm_Run l X 132 (d + 1) 0 [.ref 26, .int x1, .int x2, .null, .null, .null] [] (mm_Λ, I, J) mc ms o σ' := by
  refine mm_aload_n (v := .ref 26) d132_0 rfl (Or.inl ⟨_, rfl⟩) ?_
  refine mm_iload_n d132_1 rfl ?_
  refine mm_iload_n d132_2 rfl ?_
  exact mm_callS0 (as := [.int x1, .int x2]) (S := [.ref 26]) d132_3 okm104 ln132_101 st104 rfl rfl (Nat.le_of_ble_eq_true rfl) (Nat.le_of_ble_eq_true rfl) hcall hr
theorem b132_6 {l : Launch} {X : Nat × (Nat → Int32)} {d : Nat} {I : Nat → Nat → Int32} {J : Nat → Nat → Int64} {x1 : Int32} {x2 : Int32} {s0 : Int32} {mc ms : Nat} {o : mm_O} {σ' : mm_S} (kt : s0 ≤ 0 → mm_Run l X 132 (d + 1) 18 [.ref 26, .int x1, .int x2, .null, .null, .null] [] (mm_Λ, (mm_set I 26 0 s0), J) mc ms o σ') (kf : ¬ (s0 ≤ 0) → mm_Run l X 132 (d + 1) 16 [.ref 26, .int x1, .int x2, .null, .null, .null] [] (mm_Λ, (mm_set I 26 0 s0), J) mc ms o σ') : mm_Run l X 132 (d + 1) 6 [.ref 26, .int x1, .int x2, .null, .null, .null] [.int s0, .ref 26] (mm_Λ, I, J) mc ms o σ' := by
  refine mm_putfield d132_6 okc9 fk132_65 fp132_65 rfl rfl rfl ?_
  refine mm_aload_n (v := .ref 26) d132_9 rfl (Or.inl ⟨_, rfl⟩) ?_
  refine mm_getfield (v := .int s0) d132_10 okc9 fk132_65 rfl rfl (by nofun) ?_
  refine mm_if (tgt := 18) d132_13 (by decide) (fun h => ?_) (fun h => ?_)
  · exact kt h
  · exact kf h
theorem b132_16 {l : Launch} {X : Nat × (Nat → Int32)} {d : Nat} {I : Nat → Nat → Int32} {J : Nat → Nat → Int64} {x1 : Int32} {x2 : Int32} {mc ms : Nat}  : mm_Run l X 132 (d + 1) 16 [.ref 26, .int x1, .int x2, .null, .null, .null] [] (mm_Λ, I, J) mc ms (.inl (some (.int 0))) (mm_Λ, I, J) := by
  refine mm_ic d132_16 ci0 ?_
  exact mm_ireturn d132_17 rfl
theorem b132_18 {l : Launch} {X : Nat × (Nat → Int32)} {d : Nat} {I : Nat → Nat → Int32} {J : Nat → Nat → Int64} {x1 : Int32} {x2 : Int32} {mc ms : Nat} {o : mm_O} {σ' : mm_S} {I1 : Nat → Nat → Int32} {J1 : Nat → Nat → Int64} (hcall : mm_Call l X 105 d [.ref 26] (mm_Λ, I, J) 0 0 (.inl none) (mm_Λ, I1, J1)) (hr : mm_Run l X 132 (d + 1) 22 [.ref 26, .int x1, .int x2, .null, .null, .null] [] (mm_Λ, I1, J1) mc ms o σ') : mm_Run l X 132 (d + 1) 18 [.ref 26, .int x1, .int x2, .null, .null, .null] [] (mm_Λ, I, J) mc ms o σ' := by
  refine mm_aload_n (v := .ref 26) d132_18 rfl (Or.inl ⟨_, rfl⟩) ?_
  exact mm_callV0 (as := []) (S := []) d132_19 okm105 ln132_105 im105 se105 rfl ⟨_, _, rfl⟩ rfl rfl (Nat.le_of_ble_eq_true rfl) (Nat.le_of_ble_eq_true rfl) hcall hr
theorem b132_22 {l : Launch} {X : Nat × (Nat → Int32)} {d : Nat} {I : Nat → Nat → Int32} {J : Nat → Nat → Int64} {x1 : Int32} {x2 : Int32} {mc ms : Nat} {o : mm_O} {σ' : mm_S} (i34 : vp_in (((6 * x1) + x2) + 1) 36) (kt : (I 26 19) = 0 → mm_Run l X 132 (d + 1) 52 [.ref 26, .int x1, .int x2, .long (J 30 (((6 * x1) + x2) + 1).toNatClampNeg), .null, .null] [.ref 26] (mm_Λ, I, J) mc ms o σ') (kf : ¬ ((I 26 19) = 0) → mm_Run l X 132 (d + 1) 44 [.ref 26, .int x1, .int x2, .long (J 30 (((6 * x1) + x2) + 1).toNatClampNeg), .null, .null] [.ref 26] (mm_Λ, I, J) mc ms o σ') : mm_Run l X 132 (d + 1) 22 [.ref 26, .int x1, .int x2, .null, .null, .null] [] (mm_Λ, I, J) mc ms o σ' := by
  refine mm_aload_n (v := .ref 26) d132_22 rfl (Or.inl ⟨_, rfl⟩) ?_
  refine mm_getfield (v := .ref 30) d132_23 okc9 fk132_19 rfl rfl (by nofun) ?_
  refine mm_bi d132_26 cb6 ?_
  refine mm_iload_n d132_28 rfl ?_
  refine mm_imul d132_29 ?_
  refine mm_iload_n d132_30 rfl ?_
  refine mm_iadd d132_31 ?_
  refine mm_ic d132_32 ci1 ?_
  refine mm_iadd d132_33 ?_
  refine mm_laload d132_34 rfl i34 ?_
  refine mm_lstore_n d132_35 (by decide +kernel) ?_
  refine mm_aload_n (v := .ref 26) d132_36 rfl (Or.inl ⟨_, rfl⟩) ?_
  refine mm_aload_n (v := .ref 26) d132_37 rfl (Or.inl ⟨_, rfl⟩) ?_
  refine mm_getfield (v := .int (I 26 19)) d132_38 okc9 fk132_147 rfl rfl (by nofun) ?_
  refine mm_if (tgt := 52) d132_41 (by decide) (fun h => ?_) (fun h => ?_)
  · exact kt h
  · exact kf h
theorem b132_44 {l : Launch} {X : Nat × (Nat → Int32)} {d : Nat} {I : Nat → Nat → Int32} {J : Nat → Nat → Int64} {x1 : Int32} {x2 : Int32} {x3 : Int64} {mc ms : Nat} {o : mm_O} {σ' : mm_S} (kt : (lg_cmp x3 1000) ≤ 0 → mm_Run l X 132 (d + 1) 56 [.ref 26, .int x1, .int x2, .long x3, .null, .null] [.ref 26] (mm_Λ, I, J) mc ms o σ') (kf : ¬ ((lg_cmp x3 1000) ≤ 0) → mm_Run l X 132 (d + 1) 52 [.ref 26, .int x1, .int x2, .long x3, .null, .null] [.ref 26] (mm_Λ, I, J) mc ms o σ') : mm_Run l X 132 (d + 1) 44 [.ref 26, .int x1, .int x2, .long x3, .null, .null] [.ref 26] (mm_Λ, I, J) mc ms o σ' := by
  refine mm_lload_n d132_44 rfl ?_
  refine mm_ldc2 d132_45 kl132_168 ?_
  refine mm_lcmp d132_48 ?_
  refine mm_if (tgt := 56) d132_49 (by decide) (fun h => ?_) (fun h => ?_)
  · exact kt h
  · exact kf h
theorem b132_52 {l : Launch} {X : Nat × (Nat → Int32)} {d : Nat} {I : Nat → Nat → Int32} {J : Nat → Nat → Int64} {x1 : Int32} {x2 : Int32} {x3 : Int64} {mc ms : Nat} {o : mm_O} {σ' : mm_S} (hr : mm_Run l X 132 (d + 1) 57 [.ref 26, .int x1, .int x2, .long x3, .null, .null] [.int 3, .ref 26] (mm_Λ, I, J) mc ms o σ') : mm_Run l X 132 (d + 1) 52 [.ref 26, .int x1, .int x2, .long x3, .null, .null] [.ref 26] (mm_Λ, I, J) mc ms o σ' := by
  refine mm_ic d132_52 ci3 ?_
  refine mm_goto (tgt := 57) d132_53 (by decide) ?_
  exact hr
theorem b132_56 {l : Launch} {X : Nat × (Nat → Int32)} {d : Nat} {I : Nat → Nat → Int32} {J : Nat → Nat → Int64} {x1 : Int32} {x2 : Int32} {x3 : Int64} {mc ms : Nat} {o : mm_O} {σ' : mm_S} (hr : mm_Run l X 132 (d + 1) 57 [.ref 26, .int x1, .int x2, .long x3, .null, .null] [.int 0, .ref 26] (mm_Λ, I, J) mc ms o σ') : mm_Run l X 132 (d + 1) 56 [.ref 26, .int x1, .int x2, .long x3, .null, .null] [.ref 26] (mm_Λ, I, J) mc ms o σ' := by
  refine mm_ic d132_56 ci0 ?_
  exact hr
theorem b132_57 {l : Launch} {X : Nat × (Nat → Int32)} {d : Nat} {I : Nat → Nat → Int32} {J : Nat → Nat → Int64} {x1 : Int32} {x2 : Int32} {x3 : Int64} {s0 : Int32} {mc ms : Nat} {o : mm_O} {σ' : mm_S} (kt : s0 ≤ 0 → mm_Run l X 132 (d + 1) 69 [.ref 26, .int x1, .int x2, .long x3, .null, .null] [] (mm_Λ, (mm_set I 26 0 s0), J) mc ms o σ') (kf : ¬ (s0 ≤ 0) → mm_Run l X 132 (d + 1) 67 [.ref 26, .int x1, .int x2, .long x3, .null, .null] [] (mm_Λ, (mm_set I 26 0 s0), J) mc ms o σ') : mm_Run l X 132 (d + 1) 57 [.ref 26, .int x1, .int x2, .long x3, .null, .null] [.int s0, .ref 26] (mm_Λ, I, J) mc ms o σ' := by
  refine mm_putfield d132_57 okc9 fk132_65 fp132_65 rfl rfl rfl ?_
  refine mm_aload_n (v := .ref 26) d132_60 rfl (Or.inl ⟨_, rfl⟩) ?_
  refine mm_getfield (v := .int s0) d132_61 okc9 fk132_65 rfl rfl (by nofun) ?_
  refine mm_if (tgt := 69) d132_64 (by decide) (fun h => ?_) (fun h => ?_)
  · exact kt h
  · exact kf h
theorem b132_67 {l : Launch} {X : Nat × (Nat → Int32)} {d : Nat} {I : Nat → Nat → Int32} {J : Nat → Nat → Int64} {x1 : Int32} {x2 : Int32} {x3 : Int64} {mc ms : Nat}  : mm_Run l X 132 (d + 1) 67 [.ref 26, .int x1, .int x2, .long x3, .null, .null] [] (mm_Λ, I, J) mc ms (.inl (some (.int 0))) (mm_Λ, I, J) := by
  refine mm_ic d132_67 ci0 ?_
  exact mm_ireturn d132_68 rfl
theorem b132_69 {l : Launch} {X : Nat × (Nat → Int32)} {d : Nat} {I : Nat → Nat → Int32} {J : Nat → Nat → Int64} {x1 : Int32} {x2 : Int32} {x3 : Int64} {mc ms : Nat} {o : mm_O} {σ' : mm_S} (hr : mm_Run l X 132 (d + 1) 82 [.ref 26, .int x1, .int x2, .long x3, .null, .int 0] [] (mm_Λ, (mm_set I 26 25 0), (mm_set J 26 26 0)) mc ms o σ') : mm_Run l X 132 (d + 1) 69 [.ref 26, .int x1, .int x2, .long x3, .null, .null] [] (mm_Λ, I, J) mc ms o σ' := by
  refine mm_aload_n (v := .ref 26) d132_69 rfl (Or.inl ⟨_, rfl⟩) ?_
  refine mm_ic d132_70 ci0 ?_
  refine mm_putfield d132_71 okc9 fk132_170 fp132_170 rfl rfl rfl ?_
  refine mm_aload_n (v := .ref 26) d132_74 rfl (Or.inl ⟨_, rfl⟩) ?_
  refine mm_lc d132_75 lc0 ?_
  refine mm_putfield d132_76 okc9 fk132_173 fp132_173 rfl rfl rfl ?_
  refine mm_ic d132_79 ci0 ?_
  refine mm_istore d132_80 (by decide +kernel) ?_
  exact hr
theorem b132_82 {l : Launch} {X : Nat × (Nat → Int32)} {d : Nat} {I : Nat → Nat → Int32} {J : Nat → Nat → Int64} {x1 : Int32} {x2 : Int32} {x3 : Int64} {x5 : Int32} {mc ms : Nat} {o : mm_O} {σ' : mm_S} (kt : 0 ≤ (lg_cmp (x5.toInt64) x3) → mm_Run l X 132 (d + 1) 139 [.ref 26, .int x1, .int x2, .long x3, .null, .int x5] [] (mm_Λ, I, J) mc ms o σ') (kf : ¬ (0 ≤ (lg_cmp (x5.toInt64) x3)) → mm_Run l X 132 (d + 1) 90 [.ref 26, .int x1, .int x2, .long x3, .null, .int x5] [] (mm_Λ, I, J) mc ms o σ') : mm_Run l X 132 (d + 1) 82 [.ref 26, .int x1, .int x2, .long x3, .null, .int x5] [] (mm_Λ, I, J) mc ms o σ' := by
  refine mm_iload d132_82 rfl ?_
  refine mm_i2l d132_84 ?_
  refine mm_lload_n d132_85 rfl ?_
  refine mm_lcmp d132_86 ?_
  refine mm_if (tgt := 139) d132_87 (by decide) (fun h => ?_) (fun h => ?_)
  · exact kt h
  · exact kf h
theorem b132_90 {l : Launch} {X : Nat × (Nat → Int32)} {d : Nat} {I : Nat → Nat → Int32} {J : Nat → Nat → Int64} {x1 : Int32} {x2 : Int32} {x3 : Int64} {x5 : Int32} {mc ms : Nat} {o : mm_O} {σ' : mm_S} {I1 : Nat → Nat → Int32} {J1 : Nat → Nat → Int64} (hcall : mm_Call l X 117 d [.ref 26, .int x1, .int x2, .long (x5.toInt64)] (mm_Λ, I, J) 0 0 (.inl none) (mm_Λ, I1, J1)) (hr : mm_Run l X 132 (d + 1) 99 [.ref 26, .int x1, .int x2, .long x3, .null, .int x5] [] (mm_Λ, I1, J1) mc ms o σ') : mm_Run l X 132 (d + 1) 90 [.ref 26, .int x1, .int x2, .long x3, .null, .int x5] [] (mm_Λ, I, J) mc ms o σ' := by
  refine mm_aload_n (v := .ref 26) d132_90 rfl (Or.inl ⟨_, rfl⟩) ?_
  refine mm_iload_n d132_91 rfl ?_
  refine mm_iload_n d132_92 rfl ?_
  refine mm_iload d132_93 rfl ?_
  refine mm_i2l d132_95 ?_
  exact mm_callV0 (as := [.int x1, .int x2, .long (x5.toInt64)]) (S := []) d132_96 okm117 ln132_135 im117 se117 rfl ⟨_, _, rfl⟩ rfl rfl (Nat.le_of_ble_eq_true rfl) (Nat.le_of_ble_eq_true rfl) hcall hr
theorem b132_99 {l : Launch} {X : Nat × (Nat → Int32)} {d : Nat} {I : Nat → Nat → Int32} {J : Nat → Nat → Int64} {x1 : Int32} {x2 : Int32} {x3 : Int64} {x5 : Int32} {mc ms : Nat} {o : mm_O} {σ' : mm_S} {r : Int32} {I1 : Nat → Nat → Int32} {J1 : Nat → Nat → Int64} (hcall : mm_Call l X 133 d [.ref 26] (mm_Λ, (mm_set I 26 25 ((I 26 25) + 1)), J) 0 0 (.inl (some (.int r))) (mm_Λ, I1, J1)) (hr : mm_Run l X 132 (d + 1) 113 [.ref 26, .int x1, .int x2, .long x3, .null, .int x5] [.int r] (mm_Λ, I1, J1) mc ms o σ') : mm_Run l X 132 (d + 1) 99 [.ref 26, .int x1, .int x2, .long x3, .null, .int x5] [] (mm_Λ, I, J) mc ms o σ' := by
  refine mm_aload_n (v := .ref 26) d132_99 rfl (Or.inl ⟨_, rfl⟩) ?_
  refine mm_dup d132_100 rfl ?_
  refine mm_getfield (v := .int (I 26 25)) d132_101 okc9 fk132_170 rfl rfl (by nofun) ?_
  refine mm_ic d132_104 ci1 ?_
  refine mm_iadd d132_105 ?_
  refine mm_putfield d132_106 okc9 fk132_170 fp132_170 rfl rfl rfl ?_
  refine mm_aload_n (v := .ref 26) d132_109 rfl (Or.inl ⟨_, rfl⟩) ?_
  exact mm_callV0 (as := []) (S := []) d132_110 okm133 ln132_177 im133 se133 rfl ⟨_, _, rfl⟩ rfl rfl (Nat.le_of_ble_eq_true rfl) (Nat.le_of_ble_eq_true rfl) hcall hr
theorem b132_113 {l : Launch} {X : Nat × (Nat → Int32)} {d : Nat} {I : Nat → Nat → Int32} {J : Nat → Nat → Int64} {x1 : Int32} {x2 : Int32} {x3 : Int64} {x5 : Int32} {s0 : Int32} {mc ms : Nat} {o : mm_O} {σ' : mm_S} (kt : ¬ s0 = 0 → mm_Run l X 132 (d + 1) 123 [.ref 26, .int x1, .int x2, .long x3, .null, .int x5] [] (mm_Λ, I, J) mc ms o σ') (kf : ¬ (¬ s0 = 0) → mm_Run l X 132 (d + 1) 116 [.ref 26, .int x1, .int x2, .long x3, .null, .int x5] [] (mm_Λ, I, J) mc ms o σ') : mm_Run l X 132 (d + 1) 113 [.ref 26, .int x1, .int x2, .long x3, .null, .int x5] [.int s0] (mm_Λ, I, J) mc ms o σ' := by
  refine mm_if (tgt := 123) d132_113 (by decide) (fun h => ?_) (fun h => ?_)
  · exact kt h
  · exact kf h
theorem b132_116 {l : Launch} {X : Nat × (Nat → Int32)} {d : Nat} {I : Nat → Nat → Int32} {J : Nat → Nat → Int64} {x1 : Int32} {x2 : Int32} {x3 : Int64} {x5 : Int32} {mc ms : Nat} {o : mm_O} {σ' : mm_S} {I1 : Nat → Nat → Int32} {J1 : Nat → Nat → Int64} (hcall : mm_Call l X 122 d [.ref 26] (mm_Λ, I, J) 0 0 (.inl none) (mm_Λ, I1, J1)) (hr : mm_Run l X 132 (d + 1) 120 [.ref 26, .int x1, .int x2, .long x3, .null, .int x5] [] (mm_Λ, I1, J1) mc ms o σ') : mm_Run l X 132 (d + 1) 116 [.ref 26, .int x1, .int x2, .long x3, .null, .int x5] [] (mm_Λ, I, J) mc ms o σ' := by
  refine mm_aload_n (v := .ref 26) d132_116 rfl (Or.inl ⟨_, rfl⟩) ?_
  exact mm_callV0 (as := []) (S := []) d132_117 okm122 ln132_138 im122 se122 rfl ⟨_, _, rfl⟩ rfl rfl (Nat.le_of_ble_eq_true rfl) (Nat.le_of_ble_eq_true rfl) hcall hr
theorem b132_120 {l : Launch} {X : Nat × (Nat → Int32)} {d : Nat} {I : Nat → Nat → Int32} {J : Nat → Nat → Int64} {x1 : Int32} {x2 : Int32} {x3 : Int64} {x5 : Int32} {mc ms : Nat}  : mm_Run l X 132 (d + 1) 120 [.ref 26, .int x1, .int x2, .long x3, .null, .int x5] [] (mm_Λ, I, J) mc ms (.inl (some (.int x5))) (mm_Λ, I, J) := by
  refine mm_iload d132_120 rfl ?_
  exact mm_ireturn d132_122 rfl
theorem b132_123 {l : Launch} {X : Nat × (Nat → Int32)} {d : Nat} {I : Nat → Nat → Int32} {J : Nat → Nat → Int64} {x1 : Int32} {x2 : Int32} {x3 : Int64} {x5 : Int32} {mc ms : Nat} {o : mm_O} {σ' : mm_S} (hr : mm_Run l X 132 (d + 1) 82 [.ref 26, .int x1, .int x2, .long x3, .null, .int (x5 + 1)] [] (mm_Λ, I, (mm_set J 26 26 ((J 26 26) + 1))) mc ms o σ') : mm_Run l X 132 (d + 1) 123 [.ref 26, .int x1, .int x2, .long x3, .null, .int x5] [] (mm_Λ, I, J) mc ms o σ' := by
  refine mm_aload_n (v := .ref 26) d132_123 rfl (Or.inl ⟨_, rfl⟩) ?_
  refine mm_dup d132_124 rfl ?_
  refine mm_getfield (v := .long (J 26 26)) d132_125 okc9 fk132_173 rfl rfl (by nofun) ?_
  refine mm_lc d132_128 lc1 ?_
  refine mm_ladd d132_129 ?_
  refine mm_putfield d132_130 okc9 fk132_173 fp132_173 rfl rfl rfl ?_
  refine mm_ii d132_133 ci1 rfl (by decide +kernel) ?_
  refine mm_goto (tgt := 82) d132_136 (by decide) ?_
  exact hr
theorem b132_139 {l : Launch} {X : Nat × (Nat → Int32)} {d : Nat} {I : Nat → Nat → Int32} {J : Nat → Nat → Int64} {x1 : Int32} {x2 : Int32} {x3 : Int64} {x5 : Int32} {mc ms : Nat}  : mm_Run l X 132 (d + 1) 139 [.ref 26, .int x1, .int x2, .long x3, .null, .int x5] [] (mm_Λ, I, J) mc ms (.inl (some (.int (-1)))) (mm_Λ, I, J) := by
  refine mm_ic d132_139 cim1 ?_
  exact mm_ireturn d132_140 rfl
theorem b133_0 {l : Launch} {X : Nat × (Nat → Int32)} {d : Nat} {I : Nat → Nat → Int32} {J : Nat → Nat → Int64}  {mc ms : Nat} {o : mm_O} {σ' : mm_S} (i10 : vp_in ((I 26 19) - 1) 20) (hr : mm_Run l X 133 (d + 1) 14 [.ref 26, .int (I 42 ((I 26 19) - 1).toNatClampNeg), .int 0, .null, .null] [] (mm_Λ, I, J) mc ms o σ') : mm_Run l X 133 (d + 1) 0 [.ref 26, .null, .null, .null, .null] [] (mm_Λ, I, J) mc ms o σ' := by
  refine mm_aload_n (v := .ref 26) d133_0 rfl (Or.inl ⟨_, rfl⟩) ?_
  refine mm_getfield (v := .ref 42) d133_1 okc9 fk133_56 rfl rfl (by nofun) ?_
  refine mm_aload_n (v := .ref 26) d133_4 rfl (Or.inl ⟨_, rfl⟩) ?_
  refine mm_getfield (v := .int (I 26 19)) d133_5 okc9 fk133_147 rfl rfl (by nofun) ?_
  refine mm_ic d133_8 ci1 ?_
  refine mm_isub d133_9 ?_
  refine mm_iaload d133_10 rfl i10 ?_
  refine mm_istore_n d133_11 (by decide +kernel) ?_
  refine mm_ic d133_12 ci0 ?_
  refine mm_istore_n d133_13 (by decide +kernel) ?_
  exact hr
theorem b133_14 {l : Launch} {X : Nat × (Nat → Int32)} {d : Nat} {I : Nat → Nat → Int32} {J : Nat → Nat → Int64} {x1 : Int32} {x2 : Int32} {mc ms : Nat} {o : mm_O} {σ' : mm_S} (kt : x1 < x2 → mm_Run l X 133 (d + 1) 224 [.ref 26, .int x1, .int x2, .null, .null] [] (mm_Λ, I, J) mc ms o σ') (kf : ¬ (x1 < x2) → mm_Run l X 133 (d + 1) 19 [.ref 26, .int x1, .int x2, .null, .null] [] (mm_Λ, I, J) mc ms o σ') : mm_Run l X 133 (d + 1) 14 [.ref 26, .int x1, .int x2, .null, .null] [] (mm_Λ, I, J) mc ms o σ' := by
  refine mm_iload_n d133_14 rfl ?_
  refine mm_iload_n d133_15 rfl ?_
  refine mm_icmp (tgt := 224) d133_16 (by decide) (fun h => ?_) (fun h => ?_)
  · exact kt h
  · exact kf h
theorem b133_19 {l : Launch} {X : Nat × (Nat → Int32)} {d : Nat} {I : Nat → Nat → Int32} {J : Nat → Nat → Int64} {x1 : Int32} {x2 : Int32} {mc ms : Nat} {o : mm_O} {σ' : mm_S} (i24 : vp_in x2 20) (kt : 2 ≤ (I 38 x2.toNatClampNeg) → mm_Run l X 133 (d + 1) 33 [.ref 26, .int x1, .int x2, .null, .null] [] (mm_Λ, I, J) mc ms o σ') (kf : ¬ (2 ≤ (I 38 x2.toNatClampNeg)) → mm_Run l X 133 (d + 1) 29 [.ref 26, .int x1, .int x2, .null, .null] [] (mm_Λ, I, J) mc ms o σ') : mm_Run l X 133 (d + 1) 19 [.ref 26, .int x1, .int x2, .null, .null] [] (mm_Λ, I, J) mc ms o σ' := by
  refine mm_aload_n (v := .ref 26) d133_19 rfl (Or.inl ⟨_, rfl⟩) ?_
  refine mm_getfield (v := .ref 38) d133_20 okc9 fk133_44 rfl rfl (by nofun) ?_
  refine mm_iload_n d133_23 rfl ?_
  refine mm_iaload d133_24 rfl i24 ?_
  refine mm_ic d133_25 ci2 ?_
  refine mm_icmp (tgt := 33) d133_26 (by decide) (fun h => ?_) (fun h => ?_)
  · exact kt h
  · exact kf h
theorem b133_29 {l : Launch} {X : Nat × (Nat → Int32)} {d : Nat} {I : Nat → Nat → Int32} {J : Nat → Nat → Int64} {x1 : Int32} {x2 : Int32} {mc ms : Nat} {o : mm_O} {σ' : mm_S} (hr : mm_Run l X 133 (d + 1) 44 [.ref 26, .int x1, .int x2, .null, .null] [.int 0] (mm_Λ, I, J) mc ms o σ') : mm_Run l X 133 (d + 1) 29 [.ref 26, .int x1, .int x2, .null, .null] [] (mm_Λ, I, J) mc ms o σ' := by
  refine mm_ic d133_29 ci0 ?_
  refine mm_goto (tgt := 44) d133_30 (by decide) ?_
  exact hr
theorem b133_33 {l : Launch} {X : Nat × (Nat → Int32)} {d : Nat} {I : Nat → Nat → Int32} {J : Nat → Nat → Int64} {x1 : Int32} {x2 : Int32} {mc ms : Nat} {o : mm_O} {σ' : mm_S} (i42 : vp_in x2 20) (i43 : vp_in (I 39 x2.toNatClampNeg) 20) (hr : mm_Run l X 133 (d + 1) 44 [.ref 26, .int x1, .int x2, .null, .null] [.int (I 41 (I 39 x2.toNatClampNeg).toNatClampNeg)] (mm_Λ, I, J) mc ms o σ') : mm_Run l X 133 (d + 1) 33 [.ref 26, .int x1, .int x2, .null, .null] [] (mm_Λ, I, J) mc ms o σ' := by
  refine mm_aload_n (v := .ref 26) d133_33 rfl (Or.inl ⟨_, rfl⟩) ?_
  refine mm_getfield (v := .ref 41) d133_34 okc9 fk133_53 rfl rfl (by nofun) ?_
  refine mm_aload_n (v := .ref 26) d133_37 rfl (Or.inl ⟨_, rfl⟩) ?_
  refine mm_getfield (v := .ref 39) d133_38 okc9 fk133_47 rfl rfl (by nofun) ?_
  refine mm_iload_n d133_41 rfl ?_
  refine mm_iaload d133_42 rfl i42 ?_
  refine mm_iaload d133_43 rfl i43 ?_
  exact hr
theorem b133_44 {l : Launch} {X : Nat × (Nat → Int32)} {d : Nat} {I : Nat → Nat → Int32} {J : Nat → Nat → Int64} {x1 : Int32} {x2 : Int32} {s0 : Int32} {mc ms : Nat} {o : mm_O} {σ' : mm_S} (i50 : vp_in x2 20) (kt : 2 ≤ (I 38 x2.toNatClampNeg) → mm_Run l X 133 (d + 1) 59 [.ref 26, .int x1, .int x2, .int s0, .null] [] (mm_Λ, I, J) mc ms o σ') (kf : ¬ (2 ≤ (I 38 x2.toNatClampNeg)) → mm_Run l X 133 (d + 1) 55 [.ref 26, .int x1, .int x2, .int s0, .null] [] (mm_Λ, I, J) mc ms o σ') : mm_Run l X 133 (d + 1) 44 [.ref 26, .int x1, .int x2, .null, .null] [.int s0] (mm_Λ, I, J) mc ms o σ' := by
  refine mm_istore_n d133_44 (by decide +kernel) ?_
  refine mm_aload_n (v := .ref 26) d133_45 rfl (Or.inl ⟨_, rfl⟩) ?_
  refine mm_getfield (v := .ref 38) d133_46 okc9 fk133_44 rfl rfl (by nofun) ?_
  refine mm_iload_n d133_49 rfl ?_
  refine mm_iaload d133_50 rfl i50 ?_
  refine mm_ic d133_51 ci2 ?_
  refine mm_icmp (tgt := 59) d133_52 (by decide) (fun h => ?_) (fun h => ?_)
  · exact kt h
  · exact kf h
theorem b133_55 {l : Launch} {X : Nat × (Nat → Int32)} {d : Nat} {I : Nat → Nat → Int32} {J : Nat → Nat → Int64} {x1 : Int32} {x2 : Int32} {x3 : Int32} {mc ms : Nat} {o : mm_O} {σ' : mm_S} (hr : mm_Run l X 133 (d + 1) 70 [.ref 26, .int x1, .int x2, .int x3, .null] [.int 0] (mm_Λ, I, J) mc ms o σ') : mm_Run l X 133 (d + 1) 55 [.ref 26, .int x1, .int x2, .int x3, .null] [] (mm_Λ, I, J) mc ms o σ' := by
  refine mm_ic d133_55 ci0 ?_
  refine mm_goto (tgt := 70) d133_56 (by decide) ?_
  exact hr
theorem b133_59 {l : Launch} {X : Nat × (Nat → Int32)} {d : Nat} {I : Nat → Nat → Int32} {J : Nat → Nat → Int64} {x1 : Int32} {x2 : Int32} {x3 : Int32} {mc ms : Nat} {o : mm_O} {σ' : mm_S} (i68 : vp_in x2 20) (i69 : vp_in (I 40 x2.toNatClampNeg) 20) (hr : mm_Run l X 133 (d + 1) 70 [.ref 26, .int x1, .int x2, .int x3, .null] [.int (I 41 (I 40 x2.toNatClampNeg).toNatClampNeg)] (mm_Λ, I, J) mc ms o σ') : mm_Run l X 133 (d + 1) 59 [.ref 26, .int x1, .int x2, .int x3, .null] [] (mm_Λ, I, J) mc ms o σ' := by
  refine mm_aload_n (v := .ref 26) d133_59 rfl (Or.inl ⟨_, rfl⟩) ?_
  refine mm_getfield (v := .ref 41) d133_60 okc9 fk133_53 rfl rfl (by nofun) ?_
  refine mm_aload_n (v := .ref 26) d133_63 rfl (Or.inl ⟨_, rfl⟩) ?_
  refine mm_getfield (v := .ref 40) d133_64 okc9 fk133_50 rfl rfl (by nofun) ?_
  refine mm_iload_n d133_67 rfl ?_
  refine mm_iaload d133_68 rfl i68 ?_
  refine mm_iaload d133_69 rfl i69 ?_
  exact hr
theorem b133_70 {l : Launch} {X : Nat × (Nat → Int32)} {d : Nat} {I : Nat → Nat → Int32} {J : Nat → Nat → Int64} {x1 : Int32} {x2 : Int32} {x3 : Int32} {s0 : Int32} {mc ms : Nat} {o : mm_O} {σ' : mm_S} (i77 : vp_in x2 20) (kt : ¬ (I 38 x2.toNatClampNeg) = 0 → mm_Run l X 133 (d + 1) 106 [.ref 26, .int x1, .int x2, .int x3, .int s0] [] (mm_Λ, I, J) mc ms o σ') (kf : ¬ (¬ (I 38 x2.toNatClampNeg) = 0) → mm_Run l X 133 (d + 1) 81 [.ref 26, .int x1, .int x2, .int x3, .int s0] [] (mm_Λ, I, J) mc ms o σ') : mm_Run l X 133 (d + 1) 70 [.ref 26, .int x1, .int x2, .int x3, .null] [.int s0] (mm_Λ, I, J) mc ms o σ' := by
  refine mm_istore d133_70 (by decide +kernel) ?_
  refine mm_aload_n (v := .ref 26) d133_72 rfl (Or.inl ⟨_, rfl⟩) ?_
  refine mm_getfield (v := .ref 38) d133_73 okc9 fk133_44 rfl rfl (by nofun) ?_
  refine mm_iload_n d133_76 rfl ?_
  refine mm_iaload d133_77 rfl i77 ?_
  refine mm_if (tgt := 106) d133_78 (by decide) (fun h => ?_) (fun h => ?_)
  · exact kt h
  · exact kf h
theorem b133_81 {l : Launch} {X : Nat × (Nat → Int32)} {d : Nat} {I : Nat → Nat → Int32} {J : Nat → Nat → Int64} {x1 : Int32} {x2 : Int32} {x3 : Int32} {x4 : Int32} {mc ms : Nat} {o : mm_O} {σ' : mm_S} (i92 : vp_in x2 20) (i98 : vp_in x2 20) {r : Int32} {I1 : Nat → Nat → Int32} {J1 : Nat → Nat → Int64} (hcall : mm_Call l X 134 d [.ref 26, .int (I 39 x2.toNatClampNeg), .int (I 40 x2.toNatClampNeg)] (mm_Λ, I, J) 0 0 (.inl (some (.int r))) (mm_Λ, I1, J1)) (hr : mm_Run l X 133 (d + 1) 102 [.ref 26, .int x1, .int x2, .int x3, .int x4] [.int r, .int x2, .ref 41] (mm_Λ, I1, J1) mc ms o σ') : mm_Run l X 133 (d + 1) 81 [.ref 26, .int x1, .int x2, .int x3, .int x4] [] (mm_Λ, I, J) mc ms o σ' := by
  refine mm_aload_n (v := .ref 26) d133_81 rfl (Or.inl ⟨_, rfl⟩) ?_
  refine mm_getfield (v := .ref 41) d133_82 okc9 fk133_53 rfl rfl (by nofun) ?_
  refine mm_iload_n d133_85 rfl ?_
  refine mm_aload_n (v := .ref 26) d133_86 rfl (Or.inl ⟨_, rfl⟩) ?_
  refine mm_aload_n (v := .ref 26) d133_87 rfl (Or.inl ⟨_, rfl⟩) ?_
  refine mm_getfield (v := .ref 39) d133_88 okc9 fk133_47 rfl rfl (by nofun) ?_
  refine mm_iload_n d133_91 rfl ?_
  refine mm_iaload d133_92 rfl i92 ?_
  refine mm_aload_n (v := .ref 26) d133_93 rfl (Or.inl ⟨_, rfl⟩) ?_
  refine mm_getfield (v := .ref 40) d133_94 okc9 fk133_50 rfl rfl (by nofun) ?_
  refine mm_iload_n d133_97 rfl ?_
  refine mm_iaload d133_98 rfl i98 ?_
  exact mm_callV0 (as := [.int (I 39 x2.toNatClampNeg), .int (I 40 x2.toNatClampNeg)]) (S := [.int x2, .ref 41]) d133_99 okm134 ln133_162 im134 se134 rfl ⟨_, _, rfl⟩ rfl rfl (Nat.le_of_ble_eq_true rfl) (Nat.le_of_ble_eq_true rfl) hcall hr
theorem b133_102 {l : Launch} {X : Nat × (Nat → Int32)} {d : Nat} {I : Nat → Nat → Int32} {J : Nat → Nat → Int64} {x1 : Int32} {x2 : Int32} {x3 : Int32} {x4 : Int32} {s0 : Int32} {s1 : Int32} {mc ms : Nat} {o : mm_O} {σ' : mm_S} (i102 : vp_in s1 20) (hr : mm_Run l X 133 (d + 1) 218 [.ref 26, .int x1, .int x2, .int x3, .int x4] [] (mm_Λ, (mm_set I 41 s1.toNatClampNeg s0), J) mc ms o σ') : mm_Run l X 133 (d + 1) 102 [.ref 26, .int x1, .int x2, .int x3, .int x4] [.int s0, .int s1, .ref 41] (mm_Λ, I, J) mc ms o σ' := by
  refine mm_iastore d133_102 rfl i102 ?_
  refine mm_goto (tgt := 218) d133_103 (by decide) ?_
  exact hr
theorem b133_106 {l : Launch} {X : Nat × (Nat → Int32)} {d : Nat} {I : Nat → Nat → Int32} {J : Nat → Nat → Int64} {x1 : Int32} {x2 : Int32} {x3 : Int32} {x4 : Int32} {mc ms : Nat} {o : mm_O} {σ' : mm_S} (i111 : vp_in x2 20) (kt : ¬ (I 38 x2.toNatClampNeg) = 1 → mm_Run l X 133 (d + 1) 141 [.ref 26, .int x1, .int x2, .int x3, .int x4] [] (mm_Λ, I, J) mc ms o σ') (kf : ¬ (¬ (I 38 x2.toNatClampNeg) = 1) → mm_Run l X 133 (d + 1) 116 [.ref 26, .int x1, .int x2, .int x3, .int x4] [] (mm_Λ, I, J) mc ms o σ') : mm_Run l X 133 (d + 1) 106 [.ref 26, .int x1, .int x2, .int x3, .int x4] [] (mm_Λ, I, J) mc ms o σ' := by
  refine mm_aload_n (v := .ref 26) d133_106 rfl (Or.inl ⟨_, rfl⟩) ?_
  refine mm_getfield (v := .ref 38) d133_107 okc9 fk133_44 rfl rfl (by nofun) ?_
  refine mm_iload_n d133_110 rfl ?_
  refine mm_iaload d133_111 rfl i111 ?_
  refine mm_ic d133_112 ci1 ?_
  refine mm_icmp (tgt := 141) d133_113 (by decide) (fun h => ?_) (fun h => ?_)
  · exact kt h
  · exact kf h
theorem b133_116 {l : Launch} {X : Nat × (Nat → Int32)} {d : Nat} {I : Nat → Nat → Int32} {J : Nat → Nat → Int64} {x1 : Int32} {x2 : Int32} {x3 : Int32} {x4 : Int32} {mc ms : Nat} {o : mm_O} {σ' : mm_S} (i127 : vp_in x2 20) (i133 : vp_in x2 20) {r : Int32} {I1 : Nat → Nat → Int32} {J1 : Nat → Nat → Int64} (hcall : mm_Call l X 137 d [.ref 26, .int (I 39 x2.toNatClampNeg), .int (I 40 x2.toNatClampNeg)] (mm_Λ, I, J) 0 0 (.inl (some (.int r))) (mm_Λ, I1, J1)) (hr : mm_Run l X 133 (d + 1) 137 [.ref 26, .int x1, .int x2, .int x3, .int x4] [.int r, .int x2, .ref 41] (mm_Λ, I1, J1) mc ms o σ') : mm_Run l X 133 (d + 1) 116 [.ref 26, .int x1, .int x2, .int x3, .int x4] [] (mm_Λ, I, J) mc ms o σ' := by
  refine mm_aload_n (v := .ref 26) d133_116 rfl (Or.inl ⟨_, rfl⟩) ?_
  refine mm_getfield (v := .ref 41) d133_117 okc9 fk133_53 rfl rfl (by nofun) ?_
  refine mm_iload_n d133_120 rfl ?_
  refine mm_aload_n (v := .ref 26) d133_121 rfl (Or.inl ⟨_, rfl⟩) ?_
  refine mm_aload_n (v := .ref 26) d133_122 rfl (Or.inl ⟨_, rfl⟩) ?_
  refine mm_getfield (v := .ref 39) d133_123 okc9 fk133_47 rfl rfl (by nofun) ?_
  refine mm_iload_n d133_126 rfl ?_
  refine mm_iaload d133_127 rfl i127 ?_
  refine mm_aload_n (v := .ref 26) d133_128 rfl (Or.inl ⟨_, rfl⟩) ?_
  refine mm_getfield (v := .ref 40) d133_129 okc9 fk133_50 rfl rfl (by nofun) ?_
  refine mm_iload_n d133_132 rfl ?_
  refine mm_iaload d133_133 rfl i133 ?_
  exact mm_callV0 (as := [.int (I 39 x2.toNatClampNeg), .int (I 40 x2.toNatClampNeg)]) (S := [.int x2, .ref 41]) d133_134 okm137 ln133_165 im137 se137 rfl ⟨_, _, rfl⟩ rfl rfl (Nat.le_of_ble_eq_true rfl) (Nat.le_of_ble_eq_true rfl) hcall hr
theorem b133_137 {l : Launch} {X : Nat × (Nat → Int32)} {d : Nat} {I : Nat → Nat → Int32} {J : Nat → Nat → Int64} {x1 : Int32} {x2 : Int32} {x3 : Int32} {x4 : Int32} {s0 : Int32} {s1 : Int32} {mc ms : Nat} {o : mm_O} {σ' : mm_S} (i137 : vp_in s1 20) (hr : mm_Run l X 133 (d + 1) 218 [.ref 26, .int x1, .int x2, .int x3, .int x4] [] (mm_Λ, (mm_set I 41 s1.toNatClampNeg s0), J) mc ms o σ') : mm_Run l X 133 (d + 1) 137 [.ref 26, .int x1, .int x2, .int x3, .int x4] [.int s0, .int s1, .ref 41] (mm_Λ, I, J) mc ms o σ' := by
  refine mm_iastore d133_137 rfl i137 ?_
  refine mm_goto (tgt := 218) d133_138 (by decide) ?_
  exact hr
theorem b133_141 {l : Launch} {X : Nat × (Nat → Int32)} {d : Nat} {I : Nat → Nat → Int32} {J : Nat → Nat → Int64} {x1 : Int32} {x2 : Int32} {x3 : Int32} {x4 : Int32} {mc ms : Nat} {o : mm_O} {σ' : mm_S} (i146 : vp_in x2 20) (kt : ¬ (I 38 x2.toNatClampNeg) = 2 → mm_Run l X 133 (d + 1) 171 [.ref 26, .int x1, .int x2, .int x3, .int x4] [] (mm_Λ, I, J) mc ms o σ') (kf : ¬ (¬ (I 38 x2.toNatClampNeg) = 2) → mm_Run l X 133 (d + 1) 151 [.ref 26, .int x1, .int x2, .int x3, .int x4] [] (mm_Λ, I, J) mc ms o σ') : mm_Run l X 133 (d + 1) 141 [.ref 26, .int x1, .int x2, .int x3, .int x4] [] (mm_Λ, I, J) mc ms o σ' := by
  refine mm_aload_n (v := .ref 26) d133_141 rfl (Or.inl ⟨_, rfl⟩) ?_
  refine mm_getfield (v := .ref 38) d133_142 okc9 fk133_44 rfl rfl (by nofun) ?_
  refine mm_iload_n d133_145 rfl ?_
  refine mm_iaload d133_146 rfl i146 ?_
  refine mm_ic d133_147 ci2 ?_
  refine mm_icmp (tgt := 171) d133_148 (by decide) (fun h => ?_) (fun h => ?_)
  · exact kt h
  · exact kf h
theorem b133_151 {l : Launch} {X : Nat × (Nat → Int32)} {d : Nat} {I : Nat → Nat → Int32} {J : Nat → Nat → Int64} {x1 : Int32} {x2 : Int32} {x3 : Int32} {x4 : Int32} {mc ms : Nat} {o : mm_O} {σ' : mm_S} (kt : ¬ x3 = 1 → mm_Run l X 133 (d + 1) 166 [.ref 26, .int x1, .int x2, .int x3, .int x4] [.int x2, .ref 41] (mm_Λ, I, J) mc ms o σ') (kf : ¬ (¬ x3 = 1) → mm_Run l X 133 (d + 1) 161 [.ref 26, .int x1, .int x2, .int x3, .int x4] [.int x2, .ref 41] (mm_Λ, I, J) mc ms o σ') : mm_Run l X 133 (d + 1) 151 [.ref 26, .int x1, .int x2, .int x3, .int x4] [] (mm_Λ, I, J) mc ms o σ' := by
  refine mm_aload_n (v := .ref 26) d133_151 rfl (Or.inl ⟨_, rfl⟩) ?_
  refine mm_getfield (v := .ref 41) d133_152 okc9 fk133_53 rfl rfl (by nofun) ?_
  refine mm_iload_n d133_155 rfl ?_
  refine mm_iload_n d133_156 rfl ?_
  refine mm_ic d133_157 ci1 ?_
  refine mm_icmp (tgt := 166) d133_158 (by decide) (fun h => ?_) (fun h => ?_)
  · exact kt h
  · exact kf h
theorem b133_161 {l : Launch} {X : Nat × (Nat → Int32)} {d : Nat} {I : Nat → Nat → Int32} {J : Nat → Nat → Int64} {x1 : Int32} {x2 : Int32} {x3 : Int32} {x4 : Int32} {s0 : Int32} {mc ms : Nat} {o : mm_O} {σ' : mm_S} (hr : mm_Run l X 133 (d + 1) 167 [.ref 26, .int x1, .int x2, .int x3, .int x4] [.int x4, .int s0, .ref 41] (mm_Λ, I, J) mc ms o σ') : mm_Run l X 133 (d + 1) 161 [.ref 26, .int x1, .int x2, .int x3, .int x4] [.int s0, .ref 41] (mm_Λ, I, J) mc ms o σ' := by
  refine mm_iload d133_161 rfl ?_
  refine mm_goto (tgt := 167) d133_163 (by decide) ?_
  exact hr
theorem b133_166 {l : Launch} {X : Nat × (Nat → Int32)} {d : Nat} {I : Nat → Nat → Int32} {J : Nat → Nat → Int64} {x1 : Int32} {x2 : Int32} {x3 : Int32} {x4 : Int32} {s0 : Int32} {mc ms : Nat} {o : mm_O} {σ' : mm_S} (hr : mm_Run l X 133 (d + 1) 167 [.ref 26, .int x1, .int x2, .int x3, .int x4] [.int x3, .int s0, .ref 41] (mm_Λ, I, J) mc ms o σ') : mm_Run l X 133 (d + 1) 166 [.ref 26, .int x1, .int x2, .int x3, .int x4] [.int s0, .ref 41] (mm_Λ, I, J) mc ms o σ' := by
  refine mm_iload_n d133_166 rfl ?_
  exact hr
theorem b133_167 {l : Launch} {X : Nat × (Nat → Int32)} {d : Nat} {I : Nat → Nat → Int32} {J : Nat → Nat → Int64} {x1 : Int32} {x2 : Int32} {x3 : Int32} {x4 : Int32} {s0 : Int32} {s1 : Int32} {mc ms : Nat} {o : mm_O} {σ' : mm_S} (i167 : vp_in s1 20) (hr : mm_Run l X 133 (d + 1) 218 [.ref 26, .int x1, .int x2, .int x3, .int x4] [] (mm_Λ, (mm_set I 41 s1.toNatClampNeg s0), J) mc ms o σ') : mm_Run l X 133 (d + 1) 167 [.ref 26, .int x1, .int x2, .int x3, .int x4] [.int s0, .int s1, .ref 41] (mm_Λ, I, J) mc ms o σ' := by
  refine mm_iastore d133_167 rfl i167 ?_
  refine mm_goto (tgt := 218) d133_168 (by decide) ?_
  exact hr
theorem b133_171 {l : Launch} {X : Nat × (Nat → Int32)} {d : Nat} {I : Nat → Nat → Int32} {J : Nat → Nat → Int64} {x1 : Int32} {x2 : Int32} {x3 : Int32} {x4 : Int32} {mc ms : Nat} {o : mm_O} {σ' : mm_S} (i176 : vp_in x2 20) (kt : ¬ (I 38 x2.toNatClampNeg) = 3 → mm_Run l X 133 (d + 1) 200 [.ref 26, .int x1, .int x2, .int x3, .int x4] [] (mm_Λ, I, J) mc ms o σ') (kf : ¬ (¬ (I 38 x2.toNatClampNeg) = 3) → mm_Run l X 133 (d + 1) 181 [.ref 26, .int x1, .int x2, .int x3, .int x4] [] (mm_Λ, I, J) mc ms o σ') : mm_Run l X 133 (d + 1) 171 [.ref 26, .int x1, .int x2, .int x3, .int x4] [] (mm_Λ, I, J) mc ms o σ' := by
  refine mm_aload_n (v := .ref 26) d133_171 rfl (Or.inl ⟨_, rfl⟩) ?_
  refine mm_getfield (v := .ref 38) d133_172 okc9 fk133_44 rfl rfl (by nofun) ?_
  refine mm_iload_n d133_175 rfl ?_
  refine mm_iaload d133_176 rfl i176 ?_
  refine mm_ic d133_177 ci3 ?_
  refine mm_icmp (tgt := 200) d133_178 (by decide) (fun h => ?_) (fun h => ?_)
  · exact kt h
  · exact kf h
theorem b133_181 {l : Launch} {X : Nat × (Nat → Int32)} {d : Nat} {I : Nat → Nat → Int32} {J : Nat → Nat → Int64} {x1 : Int32} {x2 : Int32} {x3 : Int32} {x4 : Int32} {mc ms : Nat} {o : mm_O} {σ' : mm_S} (kt : ¬ x3 = 0 → mm_Run l X 133 (d + 1) 195 [.ref 26, .int x1, .int x2, .int x3, .int x4] [.int x2, .ref 41] (mm_Λ, I, J) mc ms o σ') (kf : ¬ (¬ x3 = 0) → mm_Run l X 133 (d + 1) 190 [.ref 26, .int x1, .int x2, .int x3, .int x4] [.int x2, .ref 41] (mm_Λ, I, J) mc ms o σ') : mm_Run l X 133 (d + 1) 181 [.ref 26, .int x1, .int x2, .int x3, .int x4] [] (mm_Λ, I, J) mc ms o σ' := by
  refine mm_aload_n (v := .ref 26) d133_181 rfl (Or.inl ⟨_, rfl⟩) ?_
  refine mm_getfield (v := .ref 41) d133_182 okc9 fk133_53 rfl rfl (by nofun) ?_
  refine mm_iload_n d133_185 rfl ?_
  refine mm_iload_n d133_186 rfl ?_
  refine mm_if (tgt := 195) d133_187 (by decide) (fun h => ?_) (fun h => ?_)
  · exact kt h
  · exact kf h
theorem b133_190 {l : Launch} {X : Nat × (Nat → Int32)} {d : Nat} {I : Nat → Nat → Int32} {J : Nat → Nat → Int64} {x1 : Int32} {x2 : Int32} {x3 : Int32} {x4 : Int32} {s0 : Int32} {mc ms : Nat} {o : mm_O} {σ' : mm_S} (hr : mm_Run l X 133 (d + 1) 196 [.ref 26, .int x1, .int x2, .int x3, .int x4] [.int x4, .int s0, .ref 41] (mm_Λ, I, J) mc ms o σ') : mm_Run l X 133 (d + 1) 190 [.ref 26, .int x1, .int x2, .int x3, .int x4] [.int s0, .ref 41] (mm_Λ, I, J) mc ms o σ' := by
  refine mm_iload d133_190 rfl ?_
  refine mm_goto (tgt := 196) d133_192 (by decide) ?_
  exact hr
theorem b133_195 {l : Launch} {X : Nat × (Nat → Int32)} {d : Nat} {I : Nat → Nat → Int32} {J : Nat → Nat → Int64} {x1 : Int32} {x2 : Int32} {x3 : Int32} {x4 : Int32} {s0 : Int32} {mc ms : Nat} {o : mm_O} {σ' : mm_S} (hr : mm_Run l X 133 (d + 1) 196 [.ref 26, .int x1, .int x2, .int x3, .int x4] [.int x3, .int s0, .ref 41] (mm_Λ, I, J) mc ms o σ') : mm_Run l X 133 (d + 1) 195 [.ref 26, .int x1, .int x2, .int x3, .int x4] [.int s0, .ref 41] (mm_Λ, I, J) mc ms o σ' := by
  refine mm_iload_n d133_195 rfl ?_
  exact hr
theorem b133_196 {l : Launch} {X : Nat × (Nat → Int32)} {d : Nat} {I : Nat → Nat → Int32} {J : Nat → Nat → Int64} {x1 : Int32} {x2 : Int32} {x3 : Int32} {x4 : Int32} {s0 : Int32} {s1 : Int32} {mc ms : Nat} {o : mm_O} {σ' : mm_S} (i196 : vp_in s1 20) (hr : mm_Run l X 133 (d + 1) 218 [.ref 26, .int x1, .int x2, .int x3, .int x4] [] (mm_Λ, (mm_set I 41 s1.toNatClampNeg s0), J) mc ms o σ') : mm_Run l X 133 (d + 1) 196 [.ref 26, .int x1, .int x2, .int x3, .int x4] [.int s0, .int s1, .ref 41] (mm_Λ, I, J) mc ms o σ' := by
  refine mm_iastore d133_196 rfl i196 ?_
  refine mm_goto (tgt := 218) d133_197 (by decide) ?_
  exact hr
theorem b133_200 {l : Launch} {X : Nat × (Nat → Int32)} {d : Nat} {I : Nat → Nat → Int32} {J : Nat → Nat → Int64} {x1 : Int32} {x2 : Int32} {x3 : Int32} {x4 : Int32} {mc ms : Nat} {o : mm_O} {σ' : mm_S} (kt : 2 ≤ x3 → mm_Run l X 133 (d + 1) 216 [.ref 26, .int x1, .int x2, .int x3, .int x4] [.int x2, .ref 41] (mm_Λ, I, J) mc ms o σ') (kf : ¬ (2 ≤ x3) → mm_Run l X 133 (d + 1) 210 [.ref 26, .int x1, .int x2, .int x3, .int x4] [.int x2, .ref 41] (mm_Λ, I, J) mc ms o σ') : mm_Run l X 133 (d + 1) 200 [.ref 26, .int x1, .int x2, .int x3, .int x4] [] (mm_Λ, I, J) mc ms o σ' := by
  refine mm_aload_n (v := .ref 26) d133_200 rfl (Or.inl ⟨_, rfl⟩) ?_
  refine mm_getfield (v := .ref 41) d133_201 okc9 fk133_53 rfl rfl (by nofun) ?_
  refine mm_iload_n d133_204 rfl ?_
  refine mm_iload_n d133_205 rfl ?_
  refine mm_ic d133_206 ci2 ?_
  refine mm_icmp (tgt := 216) d133_207 (by decide) (fun h => ?_) (fun h => ?_)
  · exact kt h
  · exact kf h
theorem b133_210 {l : Launch} {X : Nat × (Nat → Int32)} {d : Nat} {I : Nat → Nat → Int32} {J : Nat → Nat → Int64} {x1 : Int32} {x2 : Int32} {x3 : Int32} {x4 : Int32} {s0 : Int32} {mc ms : Nat} {o : mm_O} {σ' : mm_S} (hr : mm_Run l X 133 (d + 1) 217 [.ref 26, .int x1, .int x2, .int x3, .int x4] [.int (1 - x3), .int s0, .ref 41] (mm_Λ, I, J) mc ms o σ') : mm_Run l X 133 (d + 1) 210 [.ref 26, .int x1, .int x2, .int x3, .int x4] [.int s0, .ref 41] (mm_Λ, I, J) mc ms o σ' := by
  refine mm_ic d133_210 ci1 ?_
  refine mm_iload_n d133_211 rfl ?_
  refine mm_isub d133_212 ?_
  refine mm_goto (tgt := 217) d133_213 (by decide) ?_
  exact hr
theorem b133_216 {l : Launch} {X : Nat × (Nat → Int32)} {d : Nat} {I : Nat → Nat → Int32} {J : Nat → Nat → Int64} {x1 : Int32} {x2 : Int32} {x3 : Int32} {x4 : Int32} {s0 : Int32} {mc ms : Nat} {o : mm_O} {σ' : mm_S} (hr : mm_Run l X 133 (d + 1) 217 [.ref 26, .int x1, .int x2, .int x3, .int x4] [.int x3, .int s0, .ref 41] (mm_Λ, I, J) mc ms o σ') : mm_Run l X 133 (d + 1) 216 [.ref 26, .int x1, .int x2, .int x3, .int x4] [.int s0, .ref 41] (mm_Λ, I, J) mc ms o σ' := by
  refine mm_iload_n d133_216 rfl ?_
  exact hr
theorem b133_217 {l : Launch} {X : Nat × (Nat → Int32)} {d : Nat} {I : Nat → Nat → Int32} {J : Nat → Nat → Int64} {x1 : Int32} {x2 : Int32} {x3 : Int32} {x4 : Int32} {s0 : Int32} {s1 : Int32} {mc ms : Nat} {o : mm_O} {σ' : mm_S} (i217 : vp_in s1 20) (hr : mm_Run l X 133 (d + 1) 218 [.ref 26, .int x1, .int x2, .int x3, .int x4] [] (mm_Λ, (mm_set I 41 s1.toNatClampNeg s0), J) mc ms o σ') : mm_Run l X 133 (d + 1) 217 [.ref 26, .int x1, .int x2, .int x3, .int x4] [.int s0, .int s1, .ref 41] (mm_Λ, I, J) mc ms o σ' := by
  refine mm_iastore d133_217 rfl i217 ?_
  exact hr
theorem b133_218 {l : Launch} {X : Nat × (Nat → Int32)} {d : Nat} {I : Nat → Nat → Int32} {J : Nat → Nat → Int64} {x1 : Int32} {x2 : Int32} {x3 : Int32} {x4 : Int32} {mc ms : Nat} {o : mm_O} {σ' : mm_S} (hr : mm_Run l X 133 (d + 1) 14 [.ref 26, .int x1, .int (x2 + 1), .null, .null] [] (mm_Λ, I, J) mc ms o σ') : mm_Run l X 133 (d + 1) 218 [.ref 26, .int x1, .int x2, .int x3, .int x4] [] (mm_Λ, I, J) mc ms o σ' := by
  refine mm_ii d133_218 ci1 rfl (by decide +kernel) ?_
  refine mm_goto (tgt := 14) d133_221 (by decide) ?_
  exact mm_forget hr (by exact ⟨rfl, rfl, rfl, trivial⟩)
theorem b133_224 {l : Launch} {X : Nat × (Nat → Int32)} {d : Nat} {I : Nat → Nat → Int32} {J : Nat → Nat → Int64} {x1 : Int32} {x2 : Int32} {mc ms : Nat} (i229 : vp_in x1 20) : mm_Run l X 133 (d + 1) 224 [.ref 26, .int x1, .int x2, .null, .null] [] (mm_Λ, I, J) mc ms (.inl (some (.int (I 41 x1.toNatClampNeg)))) (mm_Λ, I, J) := by
  refine mm_aload_n (v := .ref 26) d133_224 rfl (Or.inl ⟨_, rfl⟩) ?_
  refine mm_getfield (v := .ref 41) d133_225 okc9 fk133_53 rfl rfl (by nofun) ?_
  refine mm_iload_n d133_228 rfl ?_
  refine mm_iaload d133_229 rfl i229 ?_
  exact mm_ireturn d133_230 rfl
theorem b134_0 {l : Launch} {X : Nat × (Nat → Int32)} {d : Nat} {I : Nat → Nat → Int32} {J : Nat → Nat → Int64} {x1 : Int32} {x2 : Int32} {mc ms : Nat} {o : mm_O} {σ' : mm_S} {r : Int32} {I1 : Nat → Nat → Int32} {J1 : Nat → Nat → Int64} (hcall : mm_Call l X 135 d [.ref 26, .int x1] (mm_Λ, I, J) 0 0 (.inl (some (.int r))) (mm_Λ, I1, J1)) (hr : mm_Run l X 134 (d + 1) 5 [.ref 26, .int x1, .int x2, .null] [.int r] (mm_Λ, I1, J1) mc ms o σ') : mm_Run l X 134 (d + 1) 0 [.ref 26, .int x1, .int x2, .null] [] (mm_Λ, I, J) mc ms o σ' := by
  refine mm_aload_n (v := .ref 26) d134_0 rfl (Or.inl ⟨_, rfl⟩) ?_
  refine mm_iload_n d134_1 rfl ?_
  exact mm_callV0 (as := [.int x1]) (S := []) d134_2 okm135 ln134_159 im135 se135 rfl ⟨_, _, rfl⟩ rfl rfl (Nat.le_of_ble_eq_true rfl) (Nat.le_of_ble_eq_true rfl) hcall hr
theorem b134_5 {l : Launch} {X : Nat × (Nat → Int32)} {d : Nat} {I : Nat → Nat → Int32} {J : Nat → Nat → Int64} {x1 : Int32} {x2 : Int32} {s0 : Int32} {mc ms : Nat} {o : mm_O} {σ' : mm_S} (kt : s0 = 1 → mm_Run l X 134 (d + 1) 13 [.ref 26, .int x1, .int x2, .int s0] [] (mm_Λ, I, J) mc ms o σ') (kf : ¬ (s0 = 1) → mm_Run l X 134 (d + 1) 11 [.ref 26, .int x1, .int x2, .int s0] [] (mm_Λ, I, J) mc ms o σ') : mm_Run l X 134 (d + 1) 5 [.ref 26, .int x1, .int x2, .null] [.int s0] (mm_Λ, I, J) mc ms o σ' := by
  refine mm_istore_n d134_5 (by decide +kernel) ?_
  refine mm_iload_n d134_6 rfl ?_
  refine mm_ic d134_7 ci1 ?_
  refine mm_icmp (tgt := 13) d134_8 (by decide) (fun h => ?_) (fun h => ?_)
  · exact kt h
  · exact kf h
theorem b134_11 {l : Launch} {X : Nat × (Nat → Int32)} {d : Nat} {I : Nat → Nat → Int32} {J : Nat → Nat → Int64} {x1 : Int32} {x2 : Int32} {x3 : Int32} {mc ms : Nat}  : mm_Run l X 134 (d + 1) 11 [.ref 26, .int x1, .int x2, .int x3] [] (mm_Λ, I, J) mc ms (.inl (some (.int x3))) (mm_Λ, I, J) := by
  refine mm_iload_n d134_11 rfl ?_
  exact mm_ireturn d134_12 rfl
theorem b134_13 {l : Launch} {X : Nat × (Nat → Int32)} {d : Nat} {I : Nat → Nat → Int32} {J : Nat → Nat → Int64} {x1 : Int32} {x2 : Int32} {x3 : Int32} {mc ms : Nat} {o : mm_O} {σ' : mm_S} (i18 : vp_in x1 256) (kt : ¬ (I 32 x1.toNatClampNeg) = (-2) → mm_Run l X 134 (d + 1) 30 [.ref 26, .int x1, .int x2, .int x3] [] (mm_Λ, I, J) mc ms o σ') (kf : ¬ (¬ (I 32 x1.toNatClampNeg) = (-2)) → mm_Run l X 134 (d + 1) 24 [.ref 26, .int x1, .int x2, .int x3] [] (mm_Λ, I, J) mc ms o σ') : mm_Run l X 134 (d + 1) 13 [.ref 26, .int x1, .int x2, .int x3] [] (mm_Λ, I, J) mc ms o σ' := by
  refine mm_aload_n (v := .ref 26) d134_13 rfl (Or.inl ⟨_, rfl⟩) ?_
  refine mm_getfield (v := .ref 32) d134_14 okc9 fk134_26 rfl rfl (by nofun) ?_
  refine mm_iload_n d134_17 rfl ?_
  refine mm_iaload d134_18 rfl i18 ?_
  refine mm_bi d134_19 cbm2 ?_
  refine mm_icmp (tgt := 30) d134_21 (by decide) (fun h => ?_) (fun h => ?_)
  · exact kt h
  · exact kf h
theorem b134_24 {l : Launch} {X : Nat × (Nat → Int32)} {d : Nat} {I : Nat → Nat → Int32} {J : Nat → Nat → Int64} {x1 : Int32} {x2 : Int32} {x3 : Int32} {mc ms : Nat} {o : mm_O} {σ' : mm_S} (hr : mm_Run l X 134 (d + 1) 45 [.ref 26, .int x1, .int x2, .int x3] [.int (2 + x1)] (mm_Λ, I, J) mc ms o σ') : mm_Run l X 134 (d + 1) 24 [.ref 26, .int x1, .int x2, .int x3] [] (mm_Λ, I, J) mc ms o σ' := by
  refine mm_ic d134_24 ci2 ?_
  refine mm_iload_n d134_25 rfl ?_
  refine mm_iadd d134_26 ?_
  refine mm_goto (tgt := 45) d134_27 (by decide) ?_
  exact hr
theorem b134_30 {l : Launch} {X : Nat × (Nat → Int32)} {d : Nat} {I : Nat → Nat → Int32} {J : Nat → Nat → Int64} {x1 : Int32} {x2 : Int32} {x3 : Int32} {mc ms : Nat} {o : mm_O} {σ' : mm_S} (i35 : vp_in x1 256) (kt : ¬ (I 32 x1.toNatClampNeg) = x2 → mm_Run l X 134 (d + 1) 44 [.ref 26, .int x1, .int x2, .int x3] [] (mm_Λ, I, J) mc ms o σ') (kf : ¬ (¬ (I 32 x1.toNatClampNeg) = x2) → mm_Run l X 134 (d + 1) 40 [.ref 26, .int x1, .int x2, .int x3] [] (mm_Λ, I, J) mc ms o σ') : mm_Run l X 134 (d + 1) 30 [.ref 26, .int x1, .int x2, .int x3] [] (mm_Λ, I, J) mc ms o σ' := by
  refine mm_aload_n (v := .ref 26) d134_30 rfl (Or.inl ⟨_, rfl⟩) ?_
  refine mm_getfield (v := .ref 32) d134_31 okc9 fk134_26 rfl rfl (by nofun) ?_
  refine mm_iload_n d134_34 rfl ?_
  refine mm_iaload d134_35 rfl i35 ?_
  refine mm_iload_n d134_36 rfl ?_
  refine mm_icmp (tgt := 44) d134_37 (by decide) (fun h => ?_) (fun h => ?_)
  · exact kt h
  · exact kf h
theorem b134_40 {l : Launch} {X : Nat × (Nat → Int32)} {d : Nat} {I : Nat → Nat → Int32} {J : Nat → Nat → Int64} {x1 : Int32} {x2 : Int32} {x3 : Int32} {mc ms : Nat} {o : mm_O} {σ' : mm_S} (hr : mm_Run l X 134 (d + 1) 45 [.ref 26, .int x1, .int x2, .int x3] [.int 1] (mm_Λ, I, J) mc ms o σ') : mm_Run l X 134 (d + 1) 40 [.ref 26, .int x1, .int x2, .int x3] [] (mm_Λ, I, J) mc ms o σ' := by
  refine mm_ic d134_40 ci1 ?_
  refine mm_goto (tgt := 45) d134_41 (by decide) ?_
  exact hr
theorem b134_44 {l : Launch} {X : Nat × (Nat → Int32)} {d : Nat} {I : Nat → Nat → Int32} {J : Nat → Nat → Int64} {x1 : Int32} {x2 : Int32} {x3 : Int32} {mc ms : Nat} {o : mm_O} {σ' : mm_S} (hr : mm_Run l X 134 (d + 1) 45 [.ref 26, .int x1, .int x2, .int x3] [.int 0] (mm_Λ, I, J) mc ms o σ') : mm_Run l X 134 (d + 1) 44 [.ref 26, .int x1, .int x2, .int x3] [] (mm_Λ, I, J) mc ms o σ' := by
  refine mm_ic d134_44 ci0 ?_
  exact hr
theorem b134_45 {l : Launch} {X : Nat × (Nat → Int32)} {d : Nat} {I : Nat → Nat → Int32} {J : Nat → Nat → Int64} {x1 : Int32} {x2 : Int32} {x3 : Int32} {s0 : Int32} {mc ms : Nat}  : mm_Run l X 134 (d + 1) 45 [.ref 26, .int x1, .int x2, .int x3] [.int s0] (mm_Λ, I, J) mc ms (.inl (some (.int s0))) (mm_Λ, I, J) := by
  exact mm_ireturn d134_45 rfl
theorem b135_0 {l : Launch} {X : Nat × (Nat → Int32)} {d : Nat} {I : Nat → Nat → Int32} {J : Nat → Nat → Int64} {x1 : Int32} {mc ms : Nat} {o : mm_O} {σ' : mm_S} {r : Int32} {I1 : Nat → Nat → Int32} {J1 : Nat → Nat → Int64} (hcall : mm_Call l X 120 d [.int x1] (mm_Λ, I, J) 0 0 (.inl (some (.int r))) (mm_Λ, I1, J1)) (hr : mm_Run l X 135 (d + 1) 6 [.ref 26, .int x1, .int 0, .null, .null, .null] [.int r] (mm_Λ, I1, J1) mc ms o σ') : mm_Run l X 135 (d + 1) 0 [.ref 26, .int x1, .null, .null, .null, .null] [] (mm_Λ, I, J) mc ms o σ' := by
  refine mm_ic d135_0 ci0 ?_
  refine mm_istore_n d135_1 (by decide +kernel) ?_
  refine mm_iload_n d135_2 rfl ?_
  exact mm_callS0 (as := [.int x1]) (S := []) d135_3 okm120 ln135_124 st120 rfl rfl (Nat.le_of_ble_eq_true rfl) (Nat.le_of_ble_eq_true rfl) hcall hr
theorem b135_6 {l : Launch} {X : Nat × (Nat → Int32)} {d : Nat} {I : Nat → Nat → Int32} {J : Nat → Nat → Int64} {x1 : Int32} {x2 : Int32} {s0 : Int32} {mc ms : Nat} {o : mm_O} {σ' : mm_S} (hr : mm_Run l X 135 (d + 1) 10 [.ref 26, .int x1, .int x2, .int s0, .int 0, .null] [] (mm_Λ, I, J) mc ms o σ') : mm_Run l X 135 (d + 1) 6 [.ref 26, .int x1, .int x2, .null, .null, .null] [.int s0] (mm_Λ, I, J) mc ms o σ' := by
  refine mm_istore_n d135_6 (by decide +kernel) ?_
  refine mm_ic d135_7 ci0 ?_
  refine mm_istore d135_8 (by decide +kernel) ?_
  exact hr
theorem b135_10 {l : Launch} {X : Nat × (Nat → Int32)} {d : Nat} {I : Nat → Nat → Int32} {J : Nat → Nat → Int64} {x1 : Int32} {x2 : Int32} {x3 : Int32} {x4 : Int32} {mc ms : Nat} {o : mm_O} {σ' : mm_S} (kt : x3 ≤ x4 → mm_Run l X 135 (d + 1) 81 [.ref 26, .int x1, .int x2, .int x3, .int x4, .null] [] (mm_Λ, I, J) mc ms o σ') (kf : ¬ (x3 ≤ x4) → mm_Run l X 135 (d + 1) 16 [.ref 26, .int x1, .int x2, .int x3, .int x4, .null] [] (mm_Λ, I, J) mc ms o σ') : mm_Run l X 135 (d + 1) 10 [.ref 26, .int x1, .int x2, .int x3, .int x4, .null] [] (mm_Λ, I, J) mc ms o σ' := by
  refine mm_iload d135_10 rfl ?_
  refine mm_iload_n d135_12 rfl ?_
  refine mm_icmp (tgt := 81) d135_13 (by decide) (fun h => ?_) (fun h => ?_)
  · exact kt h
  · exact kf h
theorem b135_16 {l : Launch} {X : Nat × (Nat → Int32)} {d : Nat} {I : Nat → Nat → Int32} {J : Nat → Nat → Int64} {x1 : Int32} {x2 : Int32} {x3 : Int32} {x4 : Int32} {mc ms : Nat} {o : mm_O} {σ' : mm_S} (i21 : vp_in x2 256) (kt : ¬ (I 32 x2.toNatClampNeg) = (-2) → mm_Run l X 135 (d + 1) 31 [.ref 26, .int x1, .int x2, .int x3, .int x4, .null] [] (mm_Λ, I, J) mc ms o σ') (kf : ¬ (¬ (I 32 x2.toNatClampNeg) = (-2)) → mm_Run l X 135 (d + 1) 27 [.ref 26, .int x1, .int x2, .int x3, .int x4, .null] [] (mm_Λ, I, J) mc ms o σ') : mm_Run l X 135 (d + 1) 16 [.ref 26, .int x1, .int x2, .int x3, .int x4, .null] [] (mm_Λ, I, J) mc ms o σ' := by
  refine mm_aload_n (v := .ref 26) d135_16 rfl (Or.inl ⟨_, rfl⟩) ?_
  refine mm_getfield (v := .ref 32) d135_17 okc9 fk135_26 rfl rfl (by nofun) ?_
  refine mm_iload_n d135_20 rfl ?_
  refine mm_iaload d135_21 rfl i21 ?_
  refine mm_bi d135_22 cbm2 ?_
  refine mm_icmp (tgt := 31) d135_24 (by decide) (fun h => ?_) (fun h => ?_)
  · exact kt h
  · exact kf h
theorem b135_27 {l : Launch} {X : Nat × (Nat → Int32)} {d : Nat} {I : Nat → Nat → Int32} {J : Nat → Nat → Int64} {x1 : Int32} {x2 : Int32} {x3 : Int32} {x4 : Int32} {mc ms : Nat}  : mm_Run l X 135 (d + 1) 27 [.ref 26, .int x1, .int x2, .int x3, .int x4, .null] [] (mm_Λ, I, J) mc ms (.inl (some (.int (2 + x2)))) (mm_Λ, I, J) := by
  refine mm_ic d135_27 ci2 ?_
  refine mm_iload_n d135_28 rfl ?_
  refine mm_iadd d135_29 ?_
  exact mm_ireturn d135_30 rfl
theorem b135_31 {l : Launch} {X : Nat × (Nat → Int32)} {d : Nat} {I : Nat → Nat → Int32} {J : Nat → Nat → Int64} {x1 : Int32} {x2 : Int32} {x3 : Int32} {x4 : Int32} {mc ms : Nat} {o : mm_O} {σ' : mm_S} {r : Int32} {I1 : Nat → Nat → Int32} {J1 : Nat → Nat → Int64} (hcall : mm_Call l X 136 d [.int x1, .int x4] (mm_Λ, I, J) 0 0 (.inl (some (.int r))) (mm_Λ, I1, J1)) (hr : mm_Run l X 135 (d + 1) 37 [.ref 26, .int x1, .int x2, .int x3, .int x4, .null] [.int r] (mm_Λ, I1, J1) mc ms o σ') : mm_Run l X 135 (d + 1) 31 [.ref 26, .int x1, .int x2, .int x3, .int x4, .null] [] (mm_Λ, I, J) mc ms o σ' := by
  refine mm_iload_n d135_31 rfl ?_
  refine mm_iload d135_32 rfl ?_
  exact mm_callS0 (as := [.int x1, .int x4]) (S := []) d135_34 okm136 ln135_156 st136 rfl rfl (Nat.le_of_ble_eq_true rfl) (Nat.le_of_ble_eq_true rfl) hcall hr
theorem b135_37 {l : Launch} {X : Nat × (Nat → Int32)} {d : Nat} {I : Nat → Nat → Int32} {J : Nat → Nat → Int64} {x1 : Int32} {x2 : Int32} {x3 : Int32} {x4 : Int32} {s0 : Int32} {mc ms : Nat} {o : mm_O} {σ' : mm_S} (i51 : vp_in x2 256) (i58 : vp_in x2 256) (i60 : vp_in ((4 * (I 33 x2.toNatClampNeg)) + (I 32 x2.toNatClampNeg)) 24) (kt : s0 < (I 28 ((4 * (I 33 x2.toNatClampNeg)) + (I 32 x2.toNatClampNeg)).toNatClampNeg) → mm_Run l X 135 (d + 1) 66 [.ref 26, .int x1, .int x2, .int x3, .int x4, .int s0] [] (mm_Λ, I, J) mc ms o σ') (kf : ¬ (s0 < (I 28 ((4 * (I 33 x2.toNatClampNeg)) + (I 32 x2.toNatClampNeg)).toNatClampNeg)) → mm_Run l X 135 (d + 1) 64 [.ref 26, .int x1, .int x2, .int x3, .int x4, .int s0] [] (mm_Λ, I, J) mc ms o σ') : mm_Run l X 135 (d + 1) 37 [.ref 26, .int x1, .int x2, .int x3, .int x4, .null] [.int s0] (mm_Λ, I, J) mc ms o σ' := by
  refine mm_istore d135_37 (by decide +kernel) ?_
  refine mm_iload d135_39 rfl ?_
  refine mm_aload_n (v := .ref 26) d135_41 rfl (Or.inl ⟨_, rfl⟩) ?_
  refine mm_getfield (v := .ref 28) d135_42 okc9 fk135_13 rfl rfl (by nofun) ?_
  refine mm_ic d135_45 ci4 ?_
  refine mm_aload_n (v := .ref 26) d135_46 rfl (Or.inl ⟨_, rfl⟩) ?_
  refine mm_getfield (v := .ref 33) d135_47 okc9 fk135_29 rfl rfl (by nofun) ?_
  refine mm_iload_n d135_50 rfl ?_
  refine mm_iaload d135_51 rfl i51 ?_
  refine mm_imul d135_52 ?_
  refine mm_aload_n (v := .ref 26) d135_53 rfl (Or.inl ⟨_, rfl⟩) ?_
  refine mm_getfield (v := .ref 32) d135_54 okc9 fk135_26 rfl rfl (by nofun) ?_
  refine mm_iload_n d135_57 rfl ?_
  refine mm_iaload d135_58 rfl i58 ?_
  refine mm_iadd d135_59 ?_
  refine mm_iaload d135_60 rfl i60 ?_
  refine mm_icmp (tgt := 66) d135_61 (by decide) (fun h => ?_) (fun h => ?_)
  · exact kt h
  · exact kf h
theorem b135_64 {l : Launch} {X : Nat × (Nat → Int32)} {d : Nat} {I : Nat → Nat → Int32} {J : Nat → Nat → Int64} {x1 : Int32} {x2 : Int32} {x3 : Int32} {x4 : Int32} {x5 : Int32} {mc ms : Nat}  : mm_Run l X 135 (d + 1) 64 [.ref 26, .int x1, .int x2, .int x3, .int x4, .int x5] [] (mm_Λ, I, J) mc ms (.inl (some (.int 0))) (mm_Λ, I, J) := by
  refine mm_ic d135_64 ci0 ?_
  exact mm_ireturn d135_65 rfl
theorem b135_66 {l : Launch} {X : Nat × (Nat → Int32)} {d : Nat} {I : Nat → Nat → Int32} {J : Nat → Nat → Int64} {x1 : Int32} {x2 : Int32} {x3 : Int32} {x4 : Int32} {x5 : Int32} {mc ms : Nat} {o : mm_O} {σ' : mm_S} (hr : mm_Run l X 135 (d + 1) 10 [.ref 26, .int x1, .int (((4 * x2) + x5) + 1), .int x3, .int (x4 + 1), .null] [] (mm_Λ, I, J) mc ms o σ') : mm_Run l X 135 (d + 1) 66 [.ref 26, .int x1, .int x2, .int x3, .int x4, .int x5] [] (mm_Λ, I, J) mc ms o σ' := by
  refine mm_ic d135_66 ci4 ?_
  refine mm_iload_n d135_67 rfl ?_
  refine mm_imul d135_68 ?_
  refine mm_iload d135_69 rfl ?_
  refine mm_iadd d135_71 ?_
  refine mm_ic d135_72 ci1 ?_
  refine mm_iadd d135_73 ?_
  refine mm_istore_n d135_74 (by decide +kernel) ?_
  refine mm_ii d135_75 ci1 rfl (by decide +kernel) ?_
  refine mm_goto (tgt := 10) d135_78 (by decide) ?_
  exact mm_forget hr (by exact ⟨rfl, rfl, rfl, rfl, rfl, trivial⟩)
theorem b135_81 {l : Launch} {X : Nat × (Nat → Int32)} {d : Nat} {I : Nat → Nat → Int32} {J : Nat → Nat → Int64} {x1 : Int32} {x2 : Int32} {x3 : Int32} {x4 : Int32} {mc ms : Nat}  : mm_Run l X 135 (d + 1) 81 [.ref 26, .int x1, .int x2, .int x3, .int x4, .null] [] (mm_Λ, I, J) mc ms (.inl (some (.int 1))) (mm_Λ, I, J) := by
  refine mm_ic d135_81 ci1 ?_
  exact mm_ireturn d135_82 rfl
theorem b136_0 {l : Launch} {X : Nat × (Nat → Int32)} {d : Nat} {I : Nat → Nat → Int32} {J : Nat → Nat → Int64} {x0 : Int32} {x1 : Int32} {mc ms : Nat} {o : mm_O} {σ' : mm_S} {r : Int32} {I1 : Nat → Nat → Int32} {J1 : Nat → Nat → Int64} (hcall : mm_Call l X 120 d [.int x0] (mm_Λ, I, J) 0 0 (.inl (some (.int r))) (mm_Λ, I1, J1)) (hr : mm_Run l X 136 (d + 1) 6 [.int x0, .int x1, .int x0, .null] [.int r] (mm_Λ, I1, J1) mc ms o σ') : mm_Run l X 136 (d + 1) 0 [.int x0, .int x1, .null, .null] [] (mm_Λ, I, J) mc ms o σ' := by
  refine mm_iload_n d136_0 rfl ?_
  refine mm_istore_n d136_1 (by decide +kernel) ?_
  refine mm_iload_n d136_2 rfl ?_
  exact mm_callS0 (as := [.int x0]) (S := []) d136_3 okm120 ln136_124 st120 rfl rfl (Nat.le_of_ble_eq_true rfl) (Nat.le_of_ble_eq_true rfl) hcall hr
theorem b136_6 {l : Launch} {X : Nat × (Nat → Int32)} {d : Nat} {I : Nat → Nat → Int32} {J : Nat → Nat → Int64} {x0 : Int32} {x1 : Int32} {x2 : Int32} {s0 : Int32} {mc ms : Nat} {o : mm_O} {σ' : mm_S} (hr : mm_Run l X 136 (d + 1) 7 [.int x0, .int x1, .int x2, .int s0] [] (mm_Λ, I, J) mc ms o σ') : mm_Run l X 136 (d + 1) 6 [.int x0, .int x1, .int x2, .null] [.int s0] (mm_Λ, I, J) mc ms o σ' := by
  refine mm_istore_n d136_6 (by decide +kernel) ?_
  exact hr
theorem b136_7 {l : Launch} {X : Nat × (Nat → Int32)} {d : Nat} {I : Nat → Nat → Int32} {J : Nat → Nat → Int64} {x0 : Int32} {x1 : Int32} {x2 : Int32} {x3 : Int32} {mc ms : Nat} {o : mm_O} {σ' : mm_S} (kt : x3 ≤ (x1 + 1) → mm_Run l X 136 (d + 1) 26 [.int x0, .int x1, .int x2, .int x3] [] (mm_Λ, I, J) mc ms o σ') (kf : ¬ (x3 ≤ (x1 + 1)) → mm_Run l X 136 (d + 1) 14 [.int x0, .int x1, .int x2, .int x3] [] (mm_Λ, I, J) mc ms o σ') : mm_Run l X 136 (d + 1) 7 [.int x0, .int x1, .int x2, .int x3] [] (mm_Λ, I, J) mc ms o σ' := by
  refine mm_iload_n d136_7 rfl ?_
  refine mm_iload_n d136_8 rfl ?_
  refine mm_ic d136_9 ci1 ?_
  refine mm_iadd d136_10 ?_
  refine mm_icmp (tgt := 26) d136_11 (by decide) (fun h => ?_) (fun h => ?_)
  · exact kt h
  · exact kf h
theorem b136_14 {l : Launch} {X : Nat × (Nat → Int32)} {d : Nat} {I : Nat → Nat → Int32} {J : Nat → Nat → Int64} {x0 : Int32} {x1 : Int32} {x2 : Int32} {x3 : Int32} {mc ms : Nat} {o : mm_O} {σ' : mm_S} (hr : mm_Run l X 136 (d + 1) 7 [.int x0, .int x1, .int ((x2 - 1) / 4), .int (x3 + (-1))] [] (mm_Λ, I, J) mc ms o σ') : mm_Run l X 136 (d + 1) 14 [.int x0, .int x1, .int x2, .int x3] [] (mm_Λ, I, J) mc ms o σ' := by
  refine mm_iload_n d136_14 rfl ?_
  refine mm_ic d136_15 ci1 ?_
  refine mm_isub d136_16 ?_
  refine mm_ic d136_17 ci4 ?_
  refine mm_idiv d136_18 (by decide) ?_
  refine mm_istore_n d136_19 (by decide +kernel) ?_
  refine mm_ii d136_20 cim1 rfl (by decide +kernel) ?_
  refine mm_goto (tgt := 7) d136_23 (by decide) ?_
  exact hr
theorem b136_26 {l : Launch} {X : Nat × (Nat → Int32)} {d : Nat} {I : Nat → Nat → Int32} {J : Nat → Nat → Int64} {x0 : Int32} {x1 : Int32} {x2 : Int32} {x3 : Int32} {mc ms : Nat}  : mm_Run l X 136 (d + 1) 26 [.int x0, .int x1, .int x2, .int x3] [] (mm_Λ, I, J) mc ms (.inl (some (.int ((x2 - 1) - (x2 - 1) / 4 * 4)))) (mm_Λ, I, J) := by
  refine mm_iload_n d136_26 rfl ?_
  refine mm_ic d136_27 ci1 ?_
  refine mm_isub d136_28 ?_
  refine mm_ic d136_29 ci4 ?_
  refine mm_irem d136_30 (by decide) ?_
  exact mm_ireturn d136_31 rfl
theorem b137_0 {l : Launch} {X : Nat × (Nat → Int32)} {d : Nat} {I : Nat → Nat → Int32} {J : Nat → Nat → Int64} {x1 : Int32} {x2 : Int32} {mc ms : Nat} {o : mm_O} {σ' : mm_S} {r : Int32} {I1 : Nat → Nat → Int32} {J1 : Nat → Nat → Int64} (hcall : mm_Call l X 135 d [.ref 26, .int x1] (mm_Λ, I, J) 0 0 (.inl (some (.int r))) (mm_Λ, I1, J1)) (hr : mm_Run l X 137 (d + 1) 5 [.ref 26, .int x1, .int x2, .null, .null, .null, .null, .null, .null] [.int r] (mm_Λ, I1, J1) mc ms o σ') : mm_Run l X 137 (d + 1) 0 [.ref 26, .int x1, .int x2, .null, .null, .null, .null, .null, .null] [] (mm_Λ, I, J) mc ms o σ' := by
  refine mm_aload_n (v := .ref 26) d137_0 rfl (Or.inl ⟨_, rfl⟩) ?_
  refine mm_iload_n d137_1 rfl ?_
  exact mm_callV0 (as := [.int x1]) (S := []) d137_2 okm135 ln137_159 im135 se135 rfl ⟨_, _, rfl⟩ rfl rfl (Nat.le_of_ble_eq_true rfl) (Nat.le_of_ble_eq_true rfl) hcall hr
theorem b137_5 {l : Launch} {X : Nat × (Nat → Int32)} {d : Nat} {I : Nat → Nat → Int32} {J : Nat → Nat → Int64} {x1 : Int32} {x2 : Int32} {s0 : Int32} {mc ms : Nat} {o : mm_O} {σ' : mm_S} (kt : s0 ≤ 1 → mm_Run l X 137 (d + 1) 13 [.ref 26, .int x1, .int x2, .int s0, .null, .null, .null, .null, .null] [] (mm_Λ, I, J) mc ms o σ') (kf : ¬ (s0 ≤ 1) → mm_Run l X 137 (d + 1) 11 [.ref 26, .int x1, .int x2, .int s0, .null, .null, .null, .null, .null] [] (mm_Λ, I, J) mc ms o σ') : mm_Run l X 137 (d + 1) 5 [.ref 26, .int x1, .int x2, .null, .null, .null, .null, .null, .null] [.int s0] (mm_Λ, I, J) mc ms o σ' := by
  refine mm_istore_n d137_5 (by decide +kernel) ?_
  refine mm_iload_n d137_6 rfl ?_
  refine mm_ic d137_7 ci1 ?_
  refine mm_icmp (tgt := 13) d137_8 (by decide) (fun h => ?_) (fun h => ?_)
  · exact kt h
  · exact kf h
theorem b137_11 {l : Launch} {X : Nat × (Nat → Int32)} {d : Nat} {I : Nat → Nat → Int32} {J : Nat → Nat → Int64} {x1 : Int32} {x2 : Int32} {x3 : Int32} {mc ms : Nat}  : mm_Run l X 137 (d + 1) 11 [.ref 26, .int x1, .int x2, .int x3, .null, .null, .null, .null, .null] [] (mm_Λ, I, J) mc ms (.inl (some (.int x3))) (mm_Λ, I, J) := by
  refine mm_iload_n d137_11 rfl ?_
  exact mm_ireturn d137_12 rfl
theorem b137_13 {l : Launch} {X : Nat × (Nat → Int32)} {d : Nat} {I : Nat → Nat → Int32} {J : Nat → Nat → Int64} {x1 : Int32} {x2 : Int32} {x3 : Int32} {mc ms : Nat} {o : mm_O} {σ' : mm_S} {r : Int32} {I1 : Nat → Nat → Int32} {J1 : Nat → Nat → Int64} (hcall : mm_Call l X 135 d [.ref 26, .int x2] (mm_Λ, I, J) 0 0 (.inl (some (.int r))) (mm_Λ, I1, J1)) (hr : mm_Run l X 137 (d + 1) 18 [.ref 26, .int x1, .int x2, .int x3, .null, .null, .null, .null, .null] [.int r] (mm_Λ, I1, J1) mc ms o σ') : mm_Run l X 137 (d + 1) 13 [.ref 26, .int x1, .int x2, .int x3, .null, .null, .null, .null, .null] [] (mm_Λ, I, J) mc ms o σ' := by
  refine mm_aload_n (v := .ref 26) d137_13 rfl (Or.inl ⟨_, rfl⟩) ?_
  refine mm_iload_n d137_14 rfl ?_
  exact mm_callV0 (as := [.int x2]) (S := []) d137_15 okm135 ln137_159 im135 se135 rfl ⟨_, _, rfl⟩ rfl rfl (Nat.le_of_ble_eq_true rfl) (Nat.le_of_ble_eq_true rfl) hcall hr
theorem b137_18 {l : Launch} {X : Nat × (Nat → Int32)} {d : Nat} {I : Nat → Nat → Int32} {J : Nat → Nat → Int64} {x1 : Int32} {x2 : Int32} {x3 : Int32} {s0 : Int32} {mc ms : Nat} {o : mm_O} {σ' : mm_S} (kt : s0 ≤ 1 → mm_Run l X 137 (d + 1) 29 [.ref 26, .int x1, .int x2, .int x3, .int s0, .null, .null, .null, .null] [] (mm_Λ, I, J) mc ms o σ') (kf : ¬ (s0 ≤ 1) → mm_Run l X 137 (d + 1) 26 [.ref 26, .int x1, .int x2, .int x3, .int s0, .null, .null, .null, .null] [] (mm_Λ, I, J) mc ms o σ') : mm_Run l X 137 (d + 1) 18 [.ref 26, .int x1, .int x2, .int x3, .null, .null, .null, .null, .null] [.int s0] (mm_Λ, I, J) mc ms o σ' := by
  refine mm_istore d137_18 (by decide +kernel) ?_
  refine mm_iload d137_20 rfl ?_
  refine mm_ic d137_22 ci1 ?_
  refine mm_icmp (tgt := 29) d137_23 (by decide) (fun h => ?_) (fun h => ?_)
  · exact kt h
  · exact kf h
theorem b137_26 {l : Launch} {X : Nat × (Nat → Int32)} {d : Nat} {I : Nat → Nat → Int32} {J : Nat → Nat → Int64} {x1 : Int32} {x2 : Int32} {x3 : Int32} {x4 : Int32} {mc ms : Nat}  : mm_Run l X 137 (d + 1) 26 [.ref 26, .int x1, .int x2, .int x3, .int x4, .null, .null, .null, .null] [] (mm_Λ, I, J) mc ms (.inl (some (.int x4))) (mm_Λ, I, J) := by
  refine mm_iload d137_26 rfl ?_
  exact mm_ireturn d137_28 rfl
theorem b137_29 {l : Launch} {X : Nat × (Nat → Int32)} {d : Nat} {I : Nat → Nat → Int32} {J : Nat → Nat → Int64} {x1 : Int32} {x2 : Int32} {x3 : Int32} {x4 : Int32} {mc ms : Nat} {o : mm_O} {σ' : mm_S} (kt : x3 = 0 → mm_Run l X 137 (d + 1) 38 [.ref 26, .int x1, .int x2, .int x3, .int x4, .null, .null, .null, .null] [] (mm_Λ, I, J) mc ms o σ') (kf : ¬ (x3 = 0) → mm_Run l X 137 (d + 1) 33 [.ref 26, .int x1, .int x2, .int x3, .int x4, .null, .null, .null, .null] [] (mm_Λ, I, J) mc ms o σ') : mm_Run l X 137 (d + 1) 29 [.ref 26, .int x1, .int x2, .int x3, .int x4, .null, .null, .null, .null] [] (mm_Λ, I, J) mc ms o σ' := by
  refine mm_iload_n d137_29 rfl ?_
  refine mm_if (tgt := 38) d137_30 (by decide) (fun h => ?_) (fun h => ?_)
  · exact kt h
  · exact kf h
theorem b137_33 {l : Launch} {X : Nat × (Nat → Int32)} {d : Nat} {I : Nat → Nat → Int32} {J : Nat → Nat → Int64} {x1 : Int32} {x2 : Int32} {x3 : Int32} {x4 : Int32} {mc ms : Nat} {o : mm_O} {σ' : mm_S} (kt : ¬ x4 = 0 → mm_Run l X 137 (d + 1) 50 [.ref 26, .int x1, .int x2, .int x3, .int x4, .null, .null, .null, .null] [] (mm_Λ, I, J) mc ms o σ') (kf : ¬ (¬ x4 = 0) → mm_Run l X 137 (d + 1) 38 [.ref 26, .int x1, .int x2, .int x3, .int x4, .null, .null, .null, .null] [] (mm_Λ, I, J) mc ms o σ') : mm_Run l X 137 (d + 1) 33 [.ref 26, .int x1, .int x2, .int x3, .int x4, .null, .null, .null, .null] [] (mm_Λ, I, J) mc ms o σ' := by
  refine mm_iload d137_33 rfl ?_
  refine mm_if (tgt := 50) d137_35 (by decide) (fun h => ?_) (fun h => ?_)
  · exact kt h
  · exact kf h
theorem b137_38 {l : Launch} {X : Nat × (Nat → Int32)} {d : Nat} {I : Nat → Nat → Int32} {J : Nat → Nat → Int64} {x1 : Int32} {x2 : Int32} {x3 : Int32} {x4 : Int32} {mc ms : Nat} {o : mm_O} {σ' : mm_S} (kt : ¬ x3 = x4 → mm_Run l X 137 (d + 1) 48 [.ref 26, .int x1, .int x2, .int x3, .int x4, .null, .null, .null, .null] [] (mm_Λ, I, J) mc ms o σ') (kf : ¬ (¬ x3 = x4) → mm_Run l X 137 (d + 1) 44 [.ref 26, .int x1, .int x2, .int x3, .int x4, .null, .null, .null, .null] [] (mm_Λ, I, J) mc ms o σ') : mm_Run l X 137 (d + 1) 38 [.ref 26, .int x1, .int x2, .int x3, .int x4, .null, .null, .null, .null] [] (mm_Λ, I, J) mc ms o σ' := by
  refine mm_iload_n d137_38 rfl ?_
  refine mm_iload d137_39 rfl ?_
  refine mm_icmp (tgt := 48) d137_41 (by decide) (fun h => ?_) (fun h => ?_)
  · exact kt h
  · exact kf h
theorem b137_44 {l : Launch} {X : Nat × (Nat → Int32)} {d : Nat} {I : Nat → Nat → Int32} {J : Nat → Nat → Int64} {x1 : Int32} {x2 : Int32} {x3 : Int32} {x4 : Int32} {mc ms : Nat} {o : mm_O} {σ' : mm_S} (hr : mm_Run l X 137 (d + 1) 49 [.ref 26, .int x1, .int x2, .int x3, .int x4, .null, .null, .null, .null] [.int 1] (mm_Λ, I, J) mc ms o σ') : mm_Run l X 137 (d + 1) 44 [.ref 26, .int x1, .int x2, .int x3, .int x4, .null, .null, .null, .null] [] (mm_Λ, I, J) mc ms o σ' := by
  refine mm_ic d137_44 ci1 ?_
  refine mm_goto (tgt := 49) d137_45 (by decide) ?_
  exact hr
theorem b137_48 {l : Launch} {X : Nat × (Nat → Int32)} {d : Nat} {I : Nat → Nat → Int32} {J : Nat → Nat → Int64} {x1 : Int32} {x2 : Int32} {x3 : Int32} {x4 : Int32} {mc ms : Nat} {o : mm_O} {σ' : mm_S} (hr : mm_Run l X 137 (d + 1) 49 [.ref 26, .int x1, .int x2, .int x3, .int x4, .null, .null, .null, .null] [.int 0] (mm_Λ, I, J) mc ms o σ') : mm_Run l X 137 (d + 1) 48 [.ref 26, .int x1, .int x2, .int x3, .int x4, .null, .null, .null, .null] [] (mm_Λ, I, J) mc ms o σ' := by
  refine mm_ic d137_48 ci0 ?_
  exact hr
theorem b137_49 {l : Launch} {X : Nat × (Nat → Int32)} {d : Nat} {I : Nat → Nat → Int32} {J : Nat → Nat → Int64} {x1 : Int32} {x2 : Int32} {x3 : Int32} {x4 : Int32} {s0 : Int32} {mc ms : Nat}  : mm_Run l X 137 (d + 1) 49 [.ref 26, .int x1, .int x2, .int x3, .int x4, .null, .null, .null, .null] [.int s0] (mm_Λ, I, J) mc ms (.inl (some (.int s0))) (mm_Λ, I, J) := by
  exact mm_ireturn d137_49 rfl
theorem b137_50 {l : Launch} {X : Nat × (Nat → Int32)} {d : Nat} {I : Nat → Nat → Int32} {J : Nat → Nat → Int64} {x1 : Int32} {x2 : Int32} {x3 : Int32} {x4 : Int32} {mc ms : Nat} {o : mm_O} {σ' : mm_S} {I1 : Nat → Nat → Int32} {J1 : Nat → Nat → Int64} (hcall : mm_Call l X 119 d [.ref 26, .int x1, .int x2, .long 0] (mm_Λ, (mm_set I 26 10 0), J) 0 0 (.inl none) (mm_Λ, I1, J1)) (hr : mm_Run l X 137 (d + 1) 62 [.ref 26, .int x1, .int x2, .int x3, .int x4, .null, .null, .null, .null] [] (mm_Λ, I1, J1) mc ms o σ') : mm_Run l X 137 (d + 1) 50 [.ref 26, .int x1, .int x2, .int x3, .int x4, .null, .null, .null, .null] [] (mm_Λ, I, J) mc ms o σ' := by
  refine mm_aload_n (v := .ref 26) d137_50 rfl (Or.inl ⟨_, rfl⟩) ?_
  refine mm_ic d137_51 ci0 ?_
  refine mm_putfield d137_52 okc9 fk137_114 fp137_114 rfl rfl rfl ?_
  refine mm_aload_n (v := .ref 26) d137_55 rfl (Or.inl ⟨_, rfl⟩) ?_
  refine mm_iload_n d137_56 rfl ?_
  refine mm_iload_n d137_57 rfl ?_
  refine mm_lc d137_58 lc0 ?_
  exact mm_callV0 (as := [.int x1, .int x2, .long 0]) (S := []) d137_59 okm119 ln137_117 im119 se119 rfl ⟨_, _, rfl⟩ rfl rfl (Nat.le_of_ble_eq_true rfl) (Nat.le_of_ble_eq_true rfl) hcall hr
theorem b137_62 {l : Launch} {X : Nat × (Nat → Int32)} {d : Nat} {I : Nat → Nat → Int32} {J : Nat → Nat → Int64} {x1 : Int32} {x2 : Int32} {x3 : Int32} {x4 : Int32} {mc ms : Nat} {o : mm_O} {σ' : mm_S} (kt : (I 26 10) ≤ 0 → mm_Run l X 137 (d + 1) 260 [.ref 26, .int x1, .int x2, .int x3, .int x4, .null, .null, .null, .null] [] (mm_Λ, I, J) mc ms o σ') (kf : ¬ ((I 26 10) ≤ 0) → mm_Run l X 137 (d + 1) 69 [.ref 26, .int x1, .int x2, .int x3, .int x4, .null, .null, .null, .null] [] (mm_Λ, I, J) mc ms o σ') : mm_Run l X 137 (d + 1) 62 [.ref 26, .int x1, .int x2, .int x3, .int x4, .null, .null, .null, .null] [] (mm_Λ, I, J) mc ms o σ' := by
  refine mm_aload_n (v := .ref 26) d137_62 rfl (Or.inl ⟨_, rfl⟩) ?_
  refine mm_getfield (v := .int (I 26 10)) d137_63 okc9 fk137_114 rfl rfl (by nofun) ?_
  refine mm_if (tgt := 260) d137_66 (by decide) (fun h => ?_) (fun h => ?_)
  · exact kt h
  · exact kf h
theorem b137_69 {l : Launch} {X : Nat × (Nat → Int32)} {d : Nat} {I : Nat → Nat → Int32} {J : Nat → Nat → Int64} {x1 : Int32} {x2 : Int32} {x3 : Int32} {x4 : Int32} {mc ms : Nat} {o : mm_O} {σ' : mm_S} (i87 : vp_in ((I 26 10) - 1) 512) (i98 : vp_in ((I 26 10) - 1) 512) (i107 : vp_in (I 35 ((I 26 10) - 1).toNatClampNeg) 256) (kt : (I 32 (I 35 ((I 26 10) - 1).toNatClampNeg).toNatClampNeg) = (-2) → mm_Run l X 137 (d + 1) 125 [.ref 26, .int x1, .int x2, .int x3, .int x4, .int (I 35 ((I 26 10) - 1).toNatClampNeg), .int (I 36 ((I 26 10) - 1).toNatClampNeg), .null, .null] [] (mm_Λ, (mm_set I 26 10 ((I 26 10) - 1)), J) mc ms o σ') (kf : ¬ ((I 32 (I 35 ((I 26 10) - 1).toNatClampNeg).toNatClampNeg) = (-2)) → mm_Run l X 137 (d + 1) 113 [.ref 26, .int x1, .int x2, .int x3, .int x4, .int (I 35 ((I 26 10) - 1).toNatClampNeg), .int (I 36 ((I 26 10) - 1).toNatClampNeg), .null, .null] [] (mm_Λ, (mm_set I 26 10 ((I 26 10) - 1)), J) mc ms o σ') : mm_Run l X 137 (d + 1) 69 [.ref 26, .int x1, .int x2, .int x3, .int x4, .null, .null, .null, .null] [] (mm_Λ, I, J) mc ms o σ' := by
  refine mm_aload_n (v := .ref 26) d137_69 rfl (Or.inl ⟨_, rfl⟩) ?_
  refine mm_dup d137_70 rfl ?_
  refine mm_getfield (v := .int (I 26 10)) d137_71 okc9 fk137_114 rfl rfl (by nofun) ?_
  refine mm_ic d137_74 ci1 ?_
  refine mm_isub d137_75 ?_
  refine mm_putfield d137_76 okc9 fk137_114 fp137_114 rfl rfl rfl ?_
  refine mm_aload_n (v := .ref 26) d137_79 rfl (Or.inl ⟨_, rfl⟩) ?_
  refine mm_getfield (v := .ref 35) d137_80 okc9 fk137_35 rfl rfl (by nofun) ?_
  refine mm_aload_n (v := .ref 26) d137_83 rfl (Or.inl ⟨_, rfl⟩) ?_
  refine mm_getfield (v := .int ((I 26 10) - 1)) d137_84 okc9 fk137_114 rfl rfl (by nofun) ?_
  refine mm_iaload d137_87 rfl i87 ?_
  refine mm_istore d137_88 (by decide +kernel) ?_
  refine mm_aload_n (v := .ref 26) d137_90 rfl (Or.inl ⟨_, rfl⟩) ?_
  refine mm_getfield (v := .ref 36) d137_91 okc9 fk137_38 rfl rfl (by nofun) ?_
  refine mm_aload_n (v := .ref 26) d137_94 rfl (Or.inl ⟨_, rfl⟩) ?_
  refine mm_getfield (v := .int ((I 26 10) - 1)) d137_95 okc9 fk137_114 rfl rfl (by nofun) ?_
  refine mm_iaload d137_98 rfl i98 ?_
  refine mm_istore d137_99 (by decide +kernel) ?_
  refine mm_aload_n (v := .ref 26) d137_101 rfl (Or.inl ⟨_, rfl⟩) ?_
  refine mm_getfield (v := .ref 32) d137_102 okc9 fk137_26 rfl rfl (by nofun) ?_
  refine mm_iload d137_105 rfl ?_
  refine mm_iaload d137_107 rfl i107 ?_
  refine mm_bi d137_108 cbm2 ?_
  refine mm_icmp (tgt := 125) d137_110 (by decide) (fun h => ?_) (fun h => ?_)
  · exact kt h
  · exact kf h
theorem b137_113 {l : Launch} {X : Nat × (Nat → Int32)} {d : Nat} {I : Nat → Nat → Int32} {J : Nat → Nat → Int64} {x1 : Int32} {x2 : Int32} {x3 : Int32} {x4 : Int32} {x5 : Int32} {x6 : Int32} {mc ms : Nat} {o : mm_O} {σ' : mm_S} (i119 : vp_in x6 256) (kt : ¬ (I 32 x6.toNatClampNeg) = (-2) → mm_Run l X 137 (d + 1) 147 [.ref 26, .int x1, .int x2, .int x3, .int x4, .int x5, .int x6, .null, .null] [] (mm_Λ, I, J) mc ms o σ') (kf : ¬ (¬ (I 32 x6.toNatClampNeg) = (-2)) → mm_Run l X 137 (d + 1) 125 [.ref 26, .int x1, .int x2, .int x3, .int x4, .int x5, .int x6, .null, .null] [] (mm_Λ, I, J) mc ms o σ') : mm_Run l X 137 (d + 1) 113 [.ref 26, .int x1, .int x2, .int x3, .int x4, .int x5, .int x6, .null, .null] [] (mm_Λ, I, J) mc ms o σ' := by
  refine mm_aload_n (v := .ref 26) d137_113 rfl (Or.inl ⟨_, rfl⟩) ?_
  refine mm_getfield (v := .ref 32) d137_114 okc9 fk137_26 rfl rfl (by nofun) ?_
  refine mm_iload d137_117 rfl ?_
  refine mm_iaload d137_119 rfl i119 ?_
  refine mm_bi d137_120 cbm2 ?_
  refine mm_icmp (tgt := 147) d137_122 (by decide) (fun h => ?_) (fun h => ?_)
  · exact kt h
  · exact kf h
theorem b137_125 {l : Launch} {X : Nat × (Nat → Int32)} {d : Nat} {I : Nat → Nat → Int32} {J : Nat → Nat → Int64} {x1 : Int32} {x2 : Int32} {x3 : Int32} {x4 : Int32} {x5 : Int32} {x6 : Int32} {mc ms : Nat} {o : mm_O} {σ' : mm_S} (i132 : vp_in x5 256) (kt : ¬ (I 32 x5.toNatClampNeg) = (-2) → mm_Run l X 137 (d + 1) 143 [.ref 26, .int x1, .int x2, .int x3, .int x4, .int x5, .int x6, .null, .null] [.int 2] (mm_Λ, I, J) mc ms o σ') (kf : ¬ (¬ (I 32 x5.toNatClampNeg) = (-2)) → mm_Run l X 137 (d + 1) 138 [.ref 26, .int x1, .int x2, .int x3, .int x4, .int x5, .int x6, .null, .null] [.int 2] (mm_Λ, I, J) mc ms o σ') : mm_Run l X 137 (d + 1) 125 [.ref 26, .int x1, .int x2, .int x3, .int x4, .int x5, .int x6, .null, .null] [] (mm_Λ, I, J) mc ms o σ' := by
  refine mm_ic d137_125 ci2 ?_
  refine mm_aload_n (v := .ref 26) d137_126 rfl (Or.inl ⟨_, rfl⟩) ?_
  refine mm_getfield (v := .ref 32) d137_127 okc9 fk137_26 rfl rfl (by nofun) ?_
  refine mm_iload d137_130 rfl ?_
  refine mm_iaload d137_132 rfl i132 ?_
  refine mm_bi d137_133 cbm2 ?_
  refine mm_icmp (tgt := 143) d137_135 (by decide) (fun h => ?_) (fun h => ?_)
  · exact kt h
  · exact kf h
theorem b137_138 {l : Launch} {X : Nat × (Nat → Int32)} {d : Nat} {I : Nat → Nat → Int32} {J : Nat → Nat → Int64} {x1 : Int32} {x2 : Int32} {x3 : Int32} {x4 : Int32} {x5 : Int32} {x6 : Int32} {s0 : Int32} {mc ms : Nat} {o : mm_O} {σ' : mm_S} (hr : mm_Run l X 137 (d + 1) 145 [.ref 26, .int x1, .int x2, .int x3, .int x4, .int x5, .int x6, .null, .null] [.int x5, .int s0] (mm_Λ, I, J) mc ms o σ') : mm_Run l X 137 (d + 1) 138 [.ref 26, .int x1, .int x2, .int x3, .int x4, .int x5, .int x6, .null, .null] [.int s0] (mm_Λ, I, J) mc ms o σ' := by
  refine mm_iload d137_138 rfl ?_
  refine mm_goto (tgt := 145) d137_140 (by decide) ?_
  exact hr
theorem b137_143 {l : Launch} {X : Nat × (Nat → Int32)} {d : Nat} {I : Nat → Nat → Int32} {J : Nat → Nat → Int64} {x1 : Int32} {x2 : Int32} {x3 : Int32} {x4 : Int32} {x5 : Int32} {x6 : Int32} {s0 : Int32} {mc ms : Nat} {o : mm_O} {σ' : mm_S} (hr : mm_Run l X 137 (d + 1) 145 [.ref 26, .int x1, .int x2, .int x3, .int x4, .int x5, .int x6, .null, .null] [.int x6, .int s0] (mm_Λ, I, J) mc ms o σ') : mm_Run l X 137 (d + 1) 143 [.ref 26, .int x1, .int x2, .int x3, .int x4, .int x5, .int x6, .null, .null] [.int s0] (mm_Λ, I, J) mc ms o σ' := by
  refine mm_iload d137_143 rfl ?_
  exact hr
theorem b137_145 {l : Launch} {X : Nat × (Nat → Int32)} {d : Nat} {I : Nat → Nat → Int32} {J : Nat → Nat → Int64} {x1 : Int32} {x2 : Int32} {x3 : Int32} {x4 : Int32} {x5 : Int32} {x6 : Int32} {s0 : Int32} {s1 : Int32} {mc ms : Nat}  : mm_Run l X 137 (d + 1) 145 [.ref 26, .int x1, .int x2, .int x3, .int x4, .int x5, .int x6, .null, .null] [.int s0, .int s1] (mm_Λ, I, J) mc ms (.inl (some (.int (s1 + s0)))) (mm_Λ, I, J) := by
  refine mm_iadd d137_145 ?_
  exact mm_ireturn d137_146 rfl
theorem b137_147 {l : Launch} {X : Nat × (Nat → Int32)} {d : Nat} {I : Nat → Nat → Int32} {J : Nat → Nat → Int64} {x1 : Int32} {x2 : Int32} {x3 : Int32} {x4 : Int32} {x5 : Int32} {x6 : Int32} {mc ms : Nat} {o : mm_O} {σ' : mm_S} (i158 : vp_in x5 256) (i166 : vp_in x5 256) (i168 : vp_in ((4 * (I 33 x5.toNatClampNeg)) + (I 32 x5.toNatClampNeg)) 24) (i177 : vp_in x5 256) (i184 : vp_in x6 256) (kt : ¬ (I 32 x5.toNatClampNeg) = (I 32 x6.toNatClampNeg) → mm_Run l X 137 (d + 1) 215 [.ref 26, .int x1, .int x2, .int x3, .int x4, .int x5, .int x6, .int (I 28 ((4 * (I 33 x5.toNatClampNeg)) + (I 32 x5.toNatClampNeg)).toNatClampNeg), .null] [] (mm_Λ, I, J) mc ms o σ') (kf : ¬ (¬ (I 32 x5.toNatClampNeg) = (I 32 x6.toNatClampNeg)) → mm_Run l X 137 (d + 1) 188 [.ref 26, .int x1, .int x2, .int x3, .int x4, .int x5, .int x6, .int (I 28 ((4 * (I 33 x5.toNatClampNeg)) + (I 32 x5.toNatClampNeg)).toNatClampNeg), .null] [] (mm_Λ, I, J) mc ms o σ') : mm_Run l X 137 (d + 1) 147 [.ref 26, .int x1, .int x2, .int x3, .int x4, .int x5, .int x6, .null, .null] [] (mm_Λ, I, J) mc ms o σ' := by
  refine mm_aload_n (v := .ref 26) d137_147 rfl (Or.inl ⟨_, rfl⟩) ?_
  refine mm_getfield (v := .ref 28) d137_148 okc9 fk137_13 rfl rfl (by nofun) ?_
  refine mm_ic d137_151 ci4 ?_
  refine mm_aload_n (v := .ref 26) d137_152 rfl (Or.inl ⟨_, rfl⟩) ?_
  refine mm_getfield (v := .ref 33) d137_153 okc9 fk137_29 rfl rfl (by nofun) ?_
  refine mm_iload d137_156 rfl ?_
  refine mm_iaload d137_158 rfl i158 ?_
  refine mm_imul d137_159 ?_
  refine mm_aload_n (v := .ref 26) d137_160 rfl (Or.inl ⟨_, rfl⟩) ?_
  refine mm_getfield (v := .ref 32) d137_161 okc9 fk137_26 rfl rfl (by nofun) ?_
  refine mm_iload d137_164 rfl ?_
  refine mm_iaload d137_166 rfl i166 ?_
  refine mm_iadd d137_167 ?_
  refine mm_iaload d137_168 rfl i168 ?_
  refine mm_istore d137_169 (by decide +kernel) ?_
  refine mm_aload_n (v := .ref 26) d137_171 rfl (Or.inl ⟨_, rfl⟩) ?_
  refine mm_getfield (v := .ref 32) d137_172 okc9 fk137_26 rfl rfl (by nofun) ?_
  refine mm_iload d137_175 rfl ?_
  refine mm_iaload d137_177 rfl i177 ?_
  refine mm_aload_n (v := .ref 26) d137_178 rfl (Or.inl ⟨_, rfl⟩) ?_
  refine mm_getfield (v := .ref 32) d137_179 okc9 fk137_26 rfl rfl (by nofun) ?_
  refine mm_iload d137_182 rfl ?_
  refine mm_iaload d137_184 rfl i184 ?_
  refine mm_icmp (tgt := 215) d137_185 (by decide) (fun h => ?_) (fun h => ?_)
  · exact kt h
  · exact kf h
theorem b137_188 {l : Launch} {X : Nat × (Nat → Int32)} {d : Nat} {I : Nat → Nat → Int32} {J : Nat → Nat → Int64} {x1 : Int32} {x2 : Int32} {x3 : Int32} {x4 : Int32} {x5 : Int32} {x6 : Int32} {x7 : Int32} {mc ms : Nat} {o : mm_O} {σ' : mm_S} (i201 : vp_in x6 256) (i209 : vp_in x6 256) (i211 : vp_in ((4 * (I 33 x6.toNatClampNeg)) + (I 32 x6.toNatClampNeg)) 24) (kt : x7 = (I 28 ((4 * (I 33 x6.toNatClampNeg)) + (I 32 x6.toNatClampNeg)).toNatClampNeg) → mm_Run l X 137 (d + 1) 217 [.ref 26, .int x1, .int x2, .int x3, .int x4, .int x5, .int x6, .int x7, .null] [] (mm_Λ, I, J) mc ms o σ') (kf : ¬ (x7 = (I 28 ((4 * (I 33 x6.toNatClampNeg)) + (I 32 x6.toNatClampNeg)).toNatClampNeg)) → mm_Run l X 137 (d + 1) 215 [.ref 26, .int x1, .int x2, .int x3, .int x4, .int x5, .int x6, .int x7, .null] [] (mm_Λ, I, J) mc ms o σ') : mm_Run l X 137 (d + 1) 188 [.ref 26, .int x1, .int x2, .int x3, .int x4, .int x5, .int x6, .int x7, .null] [] (mm_Λ, I, J) mc ms o σ' := by
  refine mm_iload d137_188 rfl ?_
  refine mm_aload_n (v := .ref 26) d137_190 rfl (Or.inl ⟨_, rfl⟩) ?_
  refine mm_getfield (v := .ref 28) d137_191 okc9 fk137_13 rfl rfl (by nofun) ?_
  refine mm_ic d137_194 ci4 ?_
  refine mm_aload_n (v := .ref 26) d137_195 rfl (Or.inl ⟨_, rfl⟩) ?_
  refine mm_getfield (v := .ref 33) d137_196 okc9 fk137_29 rfl rfl (by nofun) ?_
  refine mm_iload d137_199 rfl ?_
  refine mm_iaload d137_201 rfl i201 ?_
  refine mm_imul d137_202 ?_
  refine mm_aload_n (v := .ref 26) d137_203 rfl (Or.inl ⟨_, rfl⟩) ?_
  refine mm_getfield (v := .ref 32) d137_204 okc9 fk137_26 rfl rfl (by nofun) ?_
  refine mm_iload d137_207 rfl ?_
  refine mm_iaload d137_209 rfl i209 ?_
  refine mm_iadd d137_210 ?_
  refine mm_iaload d137_211 rfl i211 ?_
  refine mm_icmp (tgt := 217) d137_212 (by decide) (fun h => ?_) (fun h => ?_)
  · exact kt h
  · exact kf h
theorem b137_215 {l : Launch} {X : Nat × (Nat → Int32)} {d : Nat} {I : Nat → Nat → Int32} {J : Nat → Nat → Int64} {x1 : Int32} {x2 : Int32} {x3 : Int32} {x4 : Int32} {x5 : Int32} {x6 : Int32} {x7 : Int32} {mc ms : Nat}  : mm_Run l X 137 (d + 1) 215 [.ref 26, .int x1, .int x2, .int x3, .int x4, .int x5, .int x6, .int x7, .null] [] (mm_Λ, I, J) mc ms (.inl (some (.int 0))) (mm_Λ, I, J) := by
  refine mm_ic d137_215 ci0 ?_
  exact mm_ireturn d137_216 rfl
theorem b137_217 {l : Launch} {X : Nat × (Nat → Int32)} {d : Nat} {I : Nat → Nat → Int32} {J : Nat → Nat → Int64} {x1 : Int32} {x2 : Int32} {x3 : Int32} {x4 : Int32} {x5 : Int32} {x6 : Int32} {x7 : Int32} {mc ms : Nat} {o : mm_O} {σ' : mm_S} (hr : mm_Run l X 137 (d + 1) 223 [.ref 26, .int x1, .int x2, .int x3, .int x4, .int x5, .int x6, .int x7, .int (x7 - 1)] [] (mm_Λ, I, J) mc ms o σ') : mm_Run l X 137 (d + 1) 217 [.ref 26, .int x1, .int x2, .int x3, .int x4, .int x5, .int x6, .int x7, .null] [] (mm_Λ, I, J) mc ms o σ' := by
  refine mm_iload d137_217 rfl ?_
  refine mm_ic d137_219 ci1 ?_
  refine mm_isub d137_220 ?_
  refine mm_istore d137_221 (by decide +kernel) ?_
  exact hr
theorem b137_223 {l : Launch} {X : Nat × (Nat → Int32)} {d : Nat} {I : Nat → Nat → Int32} {J : Nat → Nat → Int64} {x1 : Int32} {x2 : Int32} {x3 : Int32} {x4 : Int32} {x5 : Int32} {x6 : Int32} {x7 : Int32} {x8 : Int32} {mc ms : Nat} {o : mm_O} {σ' : mm_S} (kt : x8 < 0 → mm_Run l X 137 (d + 1) 257 [.ref 26, .int x1, .int x2, .int x3, .int x4, .int x5, .int x6, .int x7, .int x8] [] (mm_Λ, I, J) mc ms o σ') (kf : ¬ (x8 < 0) → mm_Run l X 137 (d + 1) 228 [.ref 26, .int x1, .int x2, .int x3, .int x4, .int x5, .int x6, .int x7, .int x8] [] (mm_Λ, I, J) mc ms o σ') : mm_Run l X 137 (d + 1) 223 [.ref 26, .int x1, .int x2, .int x3, .int x4, .int x5, .int x6, .int x7, .int x8] [] (mm_Λ, I, J) mc ms o σ' := by
  refine mm_iload d137_223 rfl ?_
  refine mm_if (tgt := 257) d137_225 (by decide) (fun h => ?_) (fun h => ?_)
  · exact kt h
  · exact kf h
theorem b137_228 {l : Launch} {X : Nat × (Nat → Int32)} {d : Nat} {I : Nat → Nat → Int32} {J : Nat → Nat → Int64} {x1 : Int32} {x2 : Int32} {x3 : Int32} {x4 : Int32} {x5 : Int32} {x6 : Int32} {x7 : Int32} {x8 : Int32} {mc ms : Nat} {o : mm_O} {σ' : mm_S} {I1 : Nat → Nat → Int32} {J1 : Nat → Nat → Int64} (hcall : mm_Call l X 119 d [.ref 26, .int (((4 * x5) + x8) + 1), .int (((4 * x6) + x8) + 1), .long 0] (mm_Λ, I, J) 0 0 (.inl none) (mm_Λ, I1, J1)) (hr : mm_Run l X 137 (d + 1) 251 [.ref 26, .int x1, .int x2, .int x3, .int x4, .int x5, .int x6, .int x7, .int x8] [] (mm_Λ, I1, J1) mc ms o σ') : mm_Run l X 137 (d + 1) 228 [.ref 26, .int x1, .int x2, .int x3, .int x4, .int x5, .int x6, .int x7, .int x8] [] (mm_Λ, I, J) mc ms o σ' := by
  refine mm_aload_n (v := .ref 26) d137_228 rfl (Or.inl ⟨_, rfl⟩) ?_
  refine mm_ic d137_229 ci4 ?_
  refine mm_iload d137_230 rfl ?_
  refine mm_imul d137_232 ?_
  refine mm_iload d137_233 rfl ?_
  refine mm_iadd d137_235 ?_
  refine mm_ic d137_236 ci1 ?_
  refine mm_iadd d137_237 ?_
  refine mm_ic d137_238 ci4 ?_
  refine mm_iload d137_239 rfl ?_
  refine mm_imul d137_241 ?_
  refine mm_iload d137_242 rfl ?_
  refine mm_iadd d137_244 ?_
  refine mm_ic d137_245 ci1 ?_
  refine mm_iadd d137_246 ?_
  refine mm_lc d137_247 lc0 ?_
  exact mm_callV0 (as := [.int (((4 * x5) + x8) + 1), .int (((4 * x6) + x8) + 1), .long 0]) (S := []) d137_248 okm119 ln137_117 im119 se119 rfl ⟨_, _, rfl⟩ rfl rfl (Nat.le_of_ble_eq_true rfl) (Nat.le_of_ble_eq_true rfl) hcall hr
theorem b137_251 {l : Launch} {X : Nat × (Nat → Int32)} {d : Nat} {I : Nat → Nat → Int32} {J : Nat → Nat → Int64} {x1 : Int32} {x2 : Int32} {x3 : Int32} {x4 : Int32} {x5 : Int32} {x6 : Int32} {x7 : Int32} {x8 : Int32} {mc ms : Nat} {o : mm_O} {σ' : mm_S} (hr : mm_Run l X 137 (d + 1) 223 [.ref 26, .int x1, .int x2, .int x3, .int x4, .int x5, .int x6, .int x7, .int (x8 + (-1))] [] (mm_Λ, I, J) mc ms o σ') : mm_Run l X 137 (d + 1) 251 [.ref 26, .int x1, .int x2, .int x3, .int x4, .int x5, .int x6, .int x7, .int x8] [] (mm_Λ, I, J) mc ms o σ' := by
  refine mm_ii d137_251 cim1 rfl (by decide +kernel) ?_
  refine mm_goto (tgt := 223) d137_254 (by decide) ?_
  exact hr
theorem b137_257 {l : Launch} {X : Nat × (Nat → Int32)} {d : Nat} {I : Nat → Nat → Int32} {J : Nat → Nat → Int64} {x1 : Int32} {x2 : Int32} {x3 : Int32} {x4 : Int32} {x5 : Int32} {x6 : Int32} {x7 : Int32} {x8 : Int32} {mc ms : Nat} {o : mm_O} {σ' : mm_S} (hr : mm_Run l X 137 (d + 1) 62 [.ref 26, .int x1, .int x2, .int x3, .int x4, .null, .null, .null, .null] [] (mm_Λ, I, J) mc ms o σ') : mm_Run l X 137 (d + 1) 257 [.ref 26, .int x1, .int x2, .int x3, .int x4, .int x5, .int x6, .int x7, .int x8] [] (mm_Λ, I, J) mc ms o σ' := by
  refine mm_goto (tgt := 62) d137_257 (by decide) ?_
  exact mm_forget hr (by exact ⟨rfl, rfl, rfl, rfl, rfl, trivial⟩)
theorem b137_260 {l : Launch} {X : Nat × (Nat → Int32)} {d : Nat} {I : Nat → Nat → Int32} {J : Nat → Nat → Int64} {x1 : Int32} {x2 : Int32} {x3 : Int32} {x4 : Int32} {mc ms : Nat}  : mm_Run l X 137 (d + 1) 260 [.ref 26, .int x1, .int x2, .int x3, .int x4, .null, .null, .null, .null] [] (mm_Λ, I, J) mc ms (.inl (some (.int 1))) (mm_Λ, I, J) := by
  refine mm_ic d137_260 ci1 ?_
  exact mm_ireturn d137_261 rfl
theorem b138_0 {l : Launch} {X : Nat × (Nat → Int32)} {d : Nat} {I : Nat → Nat → Int32} {J : Nat → Nat → Int64} {x1 : Int32} {x2 : Int32} {mc ms : Nat} {o : mm_O} {σ' : mm_S} {r : Int32} {I1 : Nat → Nat → Int32} {J1 : Nat → Nat → Int64} (hcall : mm_Call l X 104 d [.int x1, .int x2] (mm_Λ, I, J) 0 0 (.inl (some (.int r))) (mm_Λ, I1, J1)) (hr : mm_Run l X 138 (d + 1) 6 [.ref 26, .int x1, .int x2, .null] [.int r, .ref 26] (mm_Λ, I1, J1) mc ms o σ') : mm_Run l X 138 (d + 1) 0 [.ref 26, .int x1, .int x2, .null] [] (mm_Λ, I, J) mc ms o σ' := by
  refine mm_aload_n (v := .ref 26) d138_0 rfl (Or.inl ⟨_, rfl⟩) ?_
  refine mm_iload_n d138_1 rfl ?_
  refine mm_iload_n d138_2 rfl ?_
  exact mm_callS0 (as := [.int x1, .int x2]) (S := [.ref 26]) d138_3 okm104 ln138_101 st104 rfl rfl (Nat.le_of_ble_eq_true rfl) (Nat.le_of_ble_eq_true rfl) hcall hr
theorem b138_6 {l : Launch} {X : Nat × (Nat → Int32)} {d : Nat} {I : Nat → Nat → Int32} {J : Nat → Nat → Int64} {x1 : Int32} {x2 : Int32} {s0 : Int32} {mc ms : Nat} {o : mm_O} {σ' : mm_S} (kt : ¬ s0 = 0 → mm_Run l X 138 (d + 1) 28 [.ref 26, .int x1, .int x2, .null] [] (mm_Λ, (mm_set I 26 0 s0), J) mc ms o σ') (kf : ¬ (¬ s0 = 0) → mm_Run l X 138 (d + 1) 16 [.ref 26, .int x1, .int x2, .null] [] (mm_Λ, (mm_set I 26 0 s0), J) mc ms o σ') : mm_Run l X 138 (d + 1) 6 [.ref 26, .int x1, .int x2, .null] [.int s0, .ref 26] (mm_Λ, I, J) mc ms o σ' := by
  refine mm_putfield d138_6 okc9 fk138_65 fp138_65 rfl rfl rfl ?_
  refine mm_aload_n (v := .ref 26) d138_9 rfl (Or.inl ⟨_, rfl⟩) ?_
  refine mm_getfield (v := .int s0) d138_10 okc9 fk138_65 rfl rfl (by nofun) ?_
  refine mm_if (tgt := 28) d138_13 (by decide) (fun h => ?_) (fun h => ?_)
  · exact kt h
  · exact kf h
theorem b138_16 {l : Launch} {X : Nat × (Nat → Int32)} {d : Nat} {I : Nat → Nat → Int32} {J : Nat → Nat → Int64} {x1 : Int32} {x2 : Int32} {mc ms : Nat} {o : mm_O} {σ' : mm_S} (kt : ¬ (I 26 19) = 0 → mm_Run l X 138 (d + 1) 28 [.ref 26, .int x1, .int x2, .null] [] (mm_Λ, I, J) mc ms o σ') (kf : ¬ (¬ (I 26 19) = 0) → mm_Run l X 138 (d + 1) 23 [.ref 26, .int x1, .int x2, .null] [] (mm_Λ, I, J) mc ms o σ') : mm_Run l X 138 (d + 1) 16 [.ref 26, .int x1, .int x2, .null] [] (mm_Λ, I, J) mc ms o σ' := by
  refine mm_aload_n (v := .ref 26) d138_16 rfl (Or.inl ⟨_, rfl⟩) ?_
  refine mm_getfield (v := .int (I 26 19)) d138_17 okc9 fk138_147 rfl rfl (by nofun) ?_
  refine mm_if (tgt := 28) d138_20 (by decide) (fun h => ?_) (fun h => ?_)
  · exact kt h
  · exact kf h
theorem b138_23 {l : Launch} {X : Nat × (Nat → Int32)} {d : Nat} {I : Nat → Nat → Int32} {J : Nat → Nat → Int64} {x1 : Int32} {x2 : Int32} {mc ms : Nat} {o : mm_O} {σ' : mm_S} (hr : mm_Run l X 138 (d + 1) 28 [.ref 26, .int x1, .int x2, .null] [] (mm_Λ, (mm_set I 26 0 3), J) mc ms o σ') : mm_Run l X 138 (d + 1) 23 [.ref 26, .int x1, .int x2, .null] [] (mm_Λ, I, J) mc ms o σ' := by
  refine mm_aload_n (v := .ref 26) d138_23 rfl (Or.inl ⟨_, rfl⟩) ?_
  refine mm_ic d138_24 ci3 ?_
  refine mm_putfield d138_25 okc9 fk138_65 fp138_65 rfl rfl rfl ?_
  exact hr
theorem b138_28 {l : Launch} {X : Nat × (Nat → Int32)} {d : Nat} {I : Nat → Nat → Int32} {J : Nat → Nat → Int64} {x1 : Int32} {x2 : Int32} {mc ms : Nat} {o : mm_O} {σ' : mm_S} (kt : (I 26 0) ≤ 0 → mm_Run l X 138 (d + 1) 37 [.ref 26, .int x1, .int x2, .null] [] (mm_Λ, I, J) mc ms o σ') (kf : ¬ ((I 26 0) ≤ 0) → mm_Run l X 138 (d + 1) 35 [.ref 26, .int x1, .int x2, .null] [] (mm_Λ, I, J) mc ms o σ') : mm_Run l X 138 (d + 1) 28 [.ref 26, .int x1, .int x2, .null] [] (mm_Λ, I, J) mc ms o σ' := by
  refine mm_aload_n (v := .ref 26) d138_28 rfl (Or.inl ⟨_, rfl⟩) ?_
  refine mm_getfield (v := .int (I 26 0)) d138_29 okc9 fk138_65 rfl rfl (by nofun) ?_
  refine mm_if (tgt := 37) d138_32 (by decide) (fun h => ?_) (fun h => ?_)
  · exact kt h
  · exact kf h
theorem b138_35 {l : Launch} {X : Nat × (Nat → Int32)} {d : Nat} {I : Nat → Nat → Int32} {J : Nat → Nat → Int64} {x1 : Int32} {x2 : Int32} {mc ms : Nat}  : mm_Run l X 138 (d + 1) 35 [.ref 26, .int x1, .int x2, .null] [] (mm_Λ, I, J) mc ms (.inl (some (.int 0))) (mm_Λ, I, J) := by
  refine mm_ic d138_35 ci0 ?_
  exact mm_zreturn d138_36 rfl (by decide)
theorem b138_37 {l : Launch} {X : Nat × (Nat → Int32)} {d : Nat} {I : Nat → Nat → Int32} {J : Nat → Nat → Int64} {x1 : Int32} {x2 : Int32} {mc ms : Nat} {o : mm_O} {σ' : mm_S} {I1 : Nat → Nat → Int32} {J1 : Nat → Nat → Int64} (hcall : mm_Call l X 105 d [.ref 26] (mm_Λ, I, J) 0 0 (.inl none) (mm_Λ, I1, J1)) (hr : mm_Run l X 138 (d + 1) 41 [.ref 26, .int x1, .int x2, .null] [] (mm_Λ, I1, J1) mc ms o σ') : mm_Run l X 138 (d + 1) 37 [.ref 26, .int x1, .int x2, .null] [] (mm_Λ, I, J) mc ms o σ' := by
  refine mm_aload_n (v := .ref 26) d138_37 rfl (Or.inl ⟨_, rfl⟩) ?_
  exact mm_callV0 (as := []) (S := []) d138_38 okm105 ln138_105 im105 se105 rfl ⟨_, _, rfl⟩ rfl rfl (Nat.le_of_ble_eq_true rfl) (Nat.le_of_ble_eq_true rfl) hcall hr
theorem b138_41 {l : Launch} {X : Nat × (Nat → Int32)} {d : Nat} {I : Nat → Nat → Int32} {J : Nat → Nat → Int64} {x1 : Int32} {x2 : Int32} {mc ms : Nat} {o : mm_O} {σ' : mm_S} {I1 : Nat → Nat → Int32} {J1 : Nat → Nat → Int64} (hcall : mm_Call l X 118 d [.ref 26] (mm_Λ, I, J) 0 0 (.inl none) (mm_Λ, I1, J1)) (hr : mm_Run l X 138 (d + 1) 45 [.ref 26, .int x1, .int x2, .null] [] (mm_Λ, I1, J1) mc ms o σ') : mm_Run l X 138 (d + 1) 41 [.ref 26, .int x1, .int x2, .null] [] (mm_Λ, I, J) mc ms o σ' := by
  refine mm_aload_n (v := .ref 26) d138_41 rfl (Or.inl ⟨_, rfl⟩) ?_
  exact mm_callV0 (as := []) (S := []) d138_42 okm118 ln138_121 im118 se118 rfl ⟨_, _, rfl⟩ rfl rfl (Nat.le_of_ble_eq_true rfl) (Nat.le_of_ble_eq_true rfl) hcall hr
theorem b138_45 {l : Launch} {X : Nat × (Nat → Int32)} {d : Nat} {I : Nat → Nat → Int32} {J : Nat → Nat → Int64} {x1 : Int32} {x2 : Int32} {mc ms : Nat} {o : mm_O} {σ' : mm_S} (hr : mm_Run l X 138 (d + 1) 82 [.ref 26, .int x1, .int x2, .int 0] [] (mm_Λ, (mm_set (mm_set (mm_set (mm_set (mm_set I 32 0 (-2)) 33 0 x1) 26 24 x2) 26 21 0) 26 25 0), (mm_set J 26 26 0)) mc ms o σ') : mm_Run l X 138 (d + 1) 45 [.ref 26, .int x1, .int x2, .null] [] (mm_Λ, I, J) mc ms o σ' := by
  refine mm_aload_n (v := .ref 26) d138_45 rfl (Or.inl ⟨_, rfl⟩) ?_
  refine mm_getfield (v := .ref 32) d138_46 okc9 fk138_26 rfl rfl (by nofun) ?_
  refine mm_ic d138_49 ci0 ?_
  refine mm_bi d138_50 cbm2 ?_
  refine mm_iastore d138_52 rfl (by unfold vp_in; decide) ?_
  refine mm_aload_n (v := .ref 26) d138_53 rfl (Or.inl ⟨_, rfl⟩) ?_
  refine mm_getfield (v := .ref 33) d138_54 okc9 fk138_29 rfl rfl (by nofun) ?_
  refine mm_ic d138_57 ci0 ?_
  refine mm_iload_n d138_58 rfl ?_
  refine mm_iastore d138_59 rfl (by unfold vp_in; decide) ?_
  refine mm_aload_n (v := .ref 26) d138_60 rfl (Or.inl ⟨_, rfl⟩) ?_
  refine mm_iload_n d138_61 rfl ?_
  refine mm_putfield d138_62 okc9 fk138_181 fp138_181 rfl rfl rfl ?_
  refine mm_aload_n (v := .ref 26) d138_65 rfl (Or.inl ⟨_, rfl⟩) ?_
  refine mm_ic d138_66 ci0 ?_
  refine mm_putfield d138_67 okc9 fk138_184 fp138_184 rfl rfl rfl ?_
  refine mm_aload_n (v := .ref 26) d138_70 rfl (Or.inl ⟨_, rfl⟩) ?_
  refine mm_ic d138_71 ci0 ?_
  refine mm_putfield d138_72 okc9 fk138_170 fp138_170 rfl rfl rfl ?_
  refine mm_aload_n (v := .ref 26) d138_75 rfl (Or.inl ⟨_, rfl⟩) ?_
  refine mm_lc d138_76 lc0 ?_
  refine mm_putfield d138_77 okc9 fk138_173 fp138_173 rfl rfl rfl ?_
  refine mm_ic d138_80 ci0 ?_
  refine mm_istore_n d138_81 (by decide +kernel) ?_
  exact hr
theorem b138_82 {l : Launch} {X : Nat × (Nat → Int32)} {d : Nat} {I : Nat → Nat → Int32} {J : Nat → Nat → Int64} {x1 : Int32} {x2 : Int32} {x3 : Int32} {mc ms : Nat} {o : mm_O} {σ' : mm_S} (kt : ¬ x3 = 0 → mm_Run l X 138 (d + 1) 111 [.ref 26, .int x1, .int x2, .int x3] [] (mm_Λ, I, J) mc ms o σ') (kf : ¬ (¬ x3 = 0) → mm_Run l X 138 (d + 1) 86 [.ref 26, .int x1, .int x2, .int x3] [] (mm_Λ, I, J) mc ms o σ') : mm_Run l X 138 (d + 1) 82 [.ref 26, .int x1, .int x2, .int x3] [] (mm_Λ, I, J) mc ms o σ' := by
  refine mm_iload_n d138_82 rfl ?_
  refine mm_if (tgt := 111) d138_83 (by decide) (fun h => ?_) (fun h => ?_)
  · exact kt h
  · exact kf h
theorem b138_86 {l : Launch} {X : Nat × (Nat → Int32)} {d : Nat} {I : Nat → Nat → Int32} {J : Nat → Nat → Int64} {x1 : Int32} {x2 : Int32} {x3 : Int32} {mc ms : Nat} {o : mm_O} {σ' : mm_S} (kt : ¬ (I 26 25) = 2000 → mm_Run l X 138 (d + 1) 103 [.ref 26, .int x1, .int x2, .int x3] [] (mm_Λ, I, J) mc ms o σ') (kf : ¬ (¬ (I 26 25) = 2000) → mm_Run l X 138 (d + 1) 96 [.ref 26, .int x1, .int x2, .int x3] [] (mm_Λ, I, J) mc ms o σ') : mm_Run l X 138 (d + 1) 86 [.ref 26, .int x1, .int x2, .int x3] [] (mm_Λ, I, J) mc ms o σ' := by
  refine mm_aload_n (v := .ref 26) d138_86 rfl (Or.inl ⟨_, rfl⟩) ?_
  refine mm_getfield (v := .int (I 26 25)) d138_87 okc9 fk138_170 rfl rfl (by nofun) ?_
  refine mm_si d138_90 cs2000 ?_
  refine mm_icmp (tgt := 103) d138_93 (by decide) (fun h => ?_) (fun h => ?_)
  · exact kt h
  · exact kf h
theorem b138_96 {l : Launch} {X : Nat × (Nat → Int32)} {d : Nat} {I : Nat → Nat → Int32} {J : Nat → Nat → Int64} {x1 : Int32} {x2 : Int32} {x3 : Int32} {mc ms : Nat}  : mm_Run l X 138 (d + 1) 96 [.ref 26, .int x1, .int x2, .int x3] [] (mm_Λ, I, J) mc ms (.inl (some (.int 0))) (mm_Λ, (mm_set I 26 0 3), J) := by
  refine mm_aload_n (v := .ref 26) d138_96 rfl (Or.inl ⟨_, rfl⟩) ?_
  refine mm_ic d138_97 ci3 ?_
  refine mm_putfield d138_98 okc9 fk138_65 fp138_65 rfl rfl rfl ?_
  refine mm_ic d138_101 ci0 ?_
  exact mm_zreturn d138_102 rfl (by decide)
theorem b138_103 {l : Launch} {X : Nat × (Nat → Int32)} {d : Nat} {I : Nat → Nat → Int32} {J : Nat → Nat → Int64} {x1 : Int32} {x2 : Int32} {x3 : Int32} {mc ms : Nat} {o : mm_O} {σ' : mm_S} {r : Int32} {I1 : Nat → Nat → Int32} {J1 : Nat → Nat → Int64} (hcall : mm_Call l X 139 d [.ref 26] (mm_Λ, I, J) 0 0 (.inl (some (.int r))) (mm_Λ, I1, J1)) (hr : mm_Run l X 138 (d + 1) 107 [.ref 26, .int x1, .int x2, .int x3] [.int r] (mm_Λ, I1, J1) mc ms o σ') : mm_Run l X 138 (d + 1) 103 [.ref 26, .int x1, .int x2, .int x3] [] (mm_Λ, I, J) mc ms o σ' := by
  refine mm_aload_n (v := .ref 26) d138_103 rfl (Or.inl ⟨_, rfl⟩) ?_
  exact mm_callV0 (as := []) (S := []) d138_104 okm139 ln138_198 im139 se139 rfl ⟨_, _, rfl⟩ rfl rfl (Nat.le_of_ble_eq_true rfl) (Nat.le_of_ble_eq_true rfl) hcall hr
theorem b138_107 {l : Launch} {X : Nat × (Nat → Int32)} {d : Nat} {I : Nat → Nat → Int32} {J : Nat → Nat → Int64} {x1 : Int32} {x2 : Int32} {x3 : Int32} {s0 : Int32} {mc ms : Nat} {o : mm_O} {σ' : mm_S} (hr : mm_Run l X 138 (d + 1) 82 [.ref 26, .int x1, .int x2, .int s0] [] (mm_Λ, I, J) mc ms o σ') : mm_Run l X 138 (d + 1) 107 [.ref 26, .int x1, .int x2, .int x3] [.int s0] (mm_Λ, I, J) mc ms o σ' := by
  refine mm_istore_n d138_107 (by decide +kernel) ?_
  refine mm_goto (tgt := 82) d138_108 (by decide) ?_
  exact hr
theorem b138_111 {l : Launch} {X : Nat × (Nat → Int32)} {d : Nat} {I : Nat → Nat → Int32} {J : Nat → Nat → Int64} {x1 : Int32} {x2 : Int32} {x3 : Int32} {mc ms : Nat} {o : mm_O} {σ' : mm_S} (kt : ¬ x3 = 2 → mm_Run l X 138 (d + 1) 120 [.ref 26, .int x1, .int x2, .int x3] [] (mm_Λ, I, J) mc ms o σ') (kf : ¬ (¬ x3 = 2) → mm_Run l X 138 (d + 1) 116 [.ref 26, .int x1, .int x2, .int x3] [] (mm_Λ, I, J) mc ms o σ') : mm_Run l X 138 (d + 1) 111 [.ref 26, .int x1, .int x2, .int x3] [] (mm_Λ, I, J) mc ms o σ' := by
  refine mm_iload_n d138_111 rfl ?_
  refine mm_ic d138_112 ci2 ?_
  refine mm_icmp (tgt := 120) d138_113 (by decide) (fun h => ?_) (fun h => ?_)
  · exact kt h
  · exact kf h
theorem b138_116 {l : Launch} {X : Nat × (Nat → Int32)} {d : Nat} {I : Nat → Nat → Int32} {J : Nat → Nat → Int64} {x1 : Int32} {x2 : Int32} {x3 : Int32} {mc ms : Nat} {o : mm_O} {σ' : mm_S} {I1 : Nat → Nat → Int32} {J1 : Nat → Nat → Int64} (hcall : mm_Call l X 122 d [.ref 26] (mm_Λ, I, J) 0 0 (.inl none) (mm_Λ, I1, J1)) (hr : mm_Run l X 138 (d + 1) 120 [.ref 26, .int x1, .int x2, .int x3] [] (mm_Λ, I1, J1) mc ms o σ') : mm_Run l X 138 (d + 1) 116 [.ref 26, .int x1, .int x2, .int x3] [] (mm_Λ, I, J) mc ms o σ' := by
  refine mm_aload_n (v := .ref 26) d138_116 rfl (Or.inl ⟨_, rfl⟩) ?_
  exact mm_callV0 (as := []) (S := []) d138_117 okm122 ln138_138 im122 se122 rfl ⟨_, _, rfl⟩ rfl rfl (Nat.le_of_ble_eq_true rfl) (Nat.le_of_ble_eq_true rfl) hcall hr
theorem b138_120 {l : Launch} {X : Nat × (Nat → Int32)} {d : Nat} {I : Nat → Nat → Int32} {J : Nat → Nat → Int64} {x1 : Int32} {x2 : Int32} {x3 : Int32} {mc ms : Nat} {o : mm_O} {σ' : mm_S} (kt : ¬ x3 = 1 → mm_Run l X 138 (d + 1) 129 [.ref 26, .int x1, .int x2, .int x3] [] (mm_Λ, I, J) mc ms o σ') (kf : ¬ (¬ x3 = 1) → mm_Run l X 138 (d + 1) 125 [.ref 26, .int x1, .int x2, .int x3] [] (mm_Λ, I, J) mc ms o σ') : mm_Run l X 138 (d + 1) 120 [.ref 26, .int x1, .int x2, .int x3] [] (mm_Λ, I, J) mc ms o σ' := by
  refine mm_iload_n d138_120 rfl ?_
  refine mm_ic d138_121 ci1 ?_
  refine mm_icmp (tgt := 129) d138_122 (by decide) (fun h => ?_) (fun h => ?_)
  · exact kt h
  · exact kf h
theorem b138_125 {l : Launch} {X : Nat × (Nat → Int32)} {d : Nat} {I : Nat → Nat → Int32} {J : Nat → Nat → Int64} {x1 : Int32} {x2 : Int32} {x3 : Int32} {mc ms : Nat} {o : mm_O} {σ' : mm_S} (hr : mm_Run l X 138 (d + 1) 130 [.ref 26, .int x1, .int x2, .int x3] [.int 1] (mm_Λ, I, J) mc ms o σ') : mm_Run l X 138 (d + 1) 125 [.ref 26, .int x1, .int x2, .int x3] [] (mm_Λ, I, J) mc ms o σ' := by
  refine mm_ic d138_125 ci1 ?_
  refine mm_goto (tgt := 130) d138_126 (by decide) ?_
  exact hr
theorem b138_129 {l : Launch} {X : Nat × (Nat → Int32)} {d : Nat} {I : Nat → Nat → Int32} {J : Nat → Nat → Int64} {x1 : Int32} {x2 : Int32} {x3 : Int32} {mc ms : Nat} {o : mm_O} {σ' : mm_S} (hr : mm_Run l X 138 (d + 1) 130 [.ref 26, .int x1, .int x2, .int x3] [.int 0] (mm_Λ, I, J) mc ms o σ') : mm_Run l X 138 (d + 1) 129 [.ref 26, .int x1, .int x2, .int x3] [] (mm_Λ, I, J) mc ms o σ' := by
  refine mm_ic d138_129 ci0 ?_
  exact hr
theorem b138_130 {l : Launch} {X : Nat × (Nat → Int32)} {d : Nat} {I : Nat → Nat → Int32} {J : Nat → Nat → Int64} {x1 : Int32} {x2 : Int32} {x3 : Int32} {s0 : Int32} {mc ms : Nat} (hz : s0 = 0 ∨ s0 = 1) : mm_Run l X 138 (d + 1) 130 [.ref 26, .int x1, .int x2, .int x3] [.int s0] (mm_Λ, I, J) mc ms (.inl (some (.int s0))) (mm_Λ, I, J) := by
  exact mm_zreturn d138_130 rfl hz
theorem b139_0 {l : Launch} {X : Nat × (Nat → Int32)} {d : Nat} {I : Nat → Nat → Int32} {J : Nat → Nat → Int64}  {mc ms : Nat} {o : mm_O} {σ' : mm_S} {r : Int32} {I1 : Nat → Nat → Int32} {J1 : Nat → Nat → Int64} (hcall : mm_Call l X 133 d [.ref 26] (mm_Λ, (mm_set I 26 25 ((I 26 25) + 1)), J) 0 0 (.inl (some (.int r))) (mm_Λ, I1, J1)) (hr : mm_Run l X 139 (d + 1) 14 [.ref 26, .null] [.int r] (mm_Λ, I1, J1) mc ms o σ') : mm_Run l X 139 (d + 1) 0 [.ref 26, .null] [] (mm_Λ, I, J) mc ms o σ' := by
  refine mm_aload_n (v := .ref 26) d139_0 rfl (Or.inl ⟨_, rfl⟩) ?_
  refine mm_dup d139_1 rfl ?_
  refine mm_getfield (v := .int (I 26 25)) d139_2 okc9 fk139_170 rfl rfl (by nofun) ?_
  refine mm_ic d139_5 ci1 ?_
  refine mm_iadd d139_6 ?_
  refine mm_putfield d139_7 okc9 fk139_170 fp139_170 rfl rfl rfl ?_
  refine mm_aload_n (v := .ref 26) d139_10 rfl (Or.inl ⟨_, rfl⟩) ?_
  exact mm_callV0 (as := []) (S := []) d139_11 okm133 ln139_177 im133 se133 rfl ⟨_, _, rfl⟩ rfl rfl (Nat.le_of_ble_eq_true rfl) (Nat.le_of_ble_eq_true rfl) hcall hr
theorem b139_14 {l : Launch} {X : Nat × (Nat → Int32)} {d : Nat} {I : Nat → Nat → Int32} {J : Nat → Nat → Int64} {s0 : Int32} {mc ms : Nat} {o : mm_O} {σ' : mm_S} (kt : ¬ s0 = 0 → mm_Run l X 139 (d + 1) 30 [.ref 26, .int s0] [] (mm_Λ, I, J) mc ms o σ') (kf : ¬ (¬ s0 = 0) → mm_Run l X 139 (d + 1) 19 [.ref 26, .int s0] [] (mm_Λ, I, J) mc ms o σ') : mm_Run l X 139 (d + 1) 14 [.ref 26, .null] [.int s0] (mm_Λ, I, J) mc ms o σ' := by
  refine mm_istore_n d139_14 (by decide +kernel) ?_
  refine mm_iload_n d139_15 rfl ?_
  refine mm_if (tgt := 30) d139_16 (by decide) (fun h => ?_) (fun h => ?_)
  · exact kt h
  · exact kf h
theorem b139_19 {l : Launch} {X : Nat × (Nat → Int32)} {d : Nat} {I : Nat → Nat → Int32} {J : Nat → Nat → Int64} {x1 : Int32} {mc ms : Nat} {o : mm_O} {σ' : mm_S} {r : Int64} {I1 : Nat → Nat → Int32} {J1 : Nat → Nat → Int64} (hcall : mm_Call l X 140 d [.ref 26] (mm_Λ, I, J) 0 0 (.inl (some (.long r))) (mm_Λ, I1, J1)) (hr : mm_Run l X 139 (d + 1) 23 [.ref 26, .int x1] [.long r] (mm_Λ, I1, J1) mc ms o σ') : mm_Run l X 139 (d + 1) 19 [.ref 26, .int x1] [] (mm_Λ, I, J) mc ms o σ' := by
  refine mm_aload_n (v := .ref 26) d139_19 rfl (Or.inl ⟨_, rfl⟩) ?_
  exact mm_callV0 (as := []) (S := []) d139_20 okm140 ln139_191 im140 se140 rfl ⟨_, _, rfl⟩ rfl rfl (Nat.le_of_ble_eq_true rfl) (Nat.le_of_ble_eq_true rfl) hcall hr
theorem b139_23 {l : Launch} {X : Nat × (Nat → Int32)} {d : Nat} {I : Nat → Nat → Int32} {J : Nat → Nat → Int64} {x1 : Int32} {s0 : Int64} {mc ms : Nat} {o : mm_O} {σ' : mm_S} (kt : (lg_cmp s0 0) ≤ 0 → mm_Run l X 139 (d + 1) 30 [.ref 26, .int x1] [] (mm_Λ, I, J) mc ms o σ') (kf : ¬ ((lg_cmp s0 0) ≤ 0) → mm_Run l X 139 (d + 1) 28 [.ref 26, .int x1] [] (mm_Λ, I, J) mc ms o σ') : mm_Run l X 139 (d + 1) 23 [.ref 26, .int x1] [.long s0] (mm_Λ, I, J) mc ms o σ' := by
  refine mm_lc d139_23 lc0 ?_
  refine mm_lcmp d139_24 ?_
  refine mm_if (tgt := 30) d139_25 (by decide) (fun h => ?_) (fun h => ?_)
  · exact kt h
  · exact kf h
theorem b139_28 {l : Launch} {X : Nat × (Nat → Int32)} {d : Nat} {I : Nat → Nat → Int32} {J : Nat → Nat → Int64} {x1 : Int32} {mc ms : Nat}  : mm_Run l X 139 (d + 1) 28 [.ref 26, .int x1] [] (mm_Λ, I, J) mc ms (.inl (some (.int 2))) (mm_Λ, I, J) := by
  refine mm_ic d139_28 ci2 ?_
  exact mm_ireturn d139_29 rfl
theorem b139_30 {l : Launch} {X : Nat × (Nat → Int32)} {d : Nat} {I : Nat → Nat → Int32} {J : Nat → Nat → Int64} {x1 : Int32} {mc ms : Nat} {o : mm_O} {σ' : mm_S} (kt : ¬ x1 = 1 → mm_Run l X 139 (d + 1) 50 [.ref 26, .int x1] [] (mm_Λ, I, J) mc ms o σ') (kf : ¬ (¬ x1 = 1) → mm_Run l X 139 (d + 1) 35 [.ref 26, .int x1] [] (mm_Λ, I, J) mc ms o σ') : mm_Run l X 139 (d + 1) 30 [.ref 26, .int x1] [] (mm_Λ, I, J) mc ms o σ' := by
  refine mm_iload_n d139_30 rfl ?_
  refine mm_ic d139_31 ci1 ?_
  refine mm_icmp (tgt := 50) d139_32 (by decide) (fun h => ?_) (fun h => ?_)
  · exact kt h
  · exact kf h
theorem b139_35 {l : Launch} {X : Nat × (Nat → Int32)} {d : Nat} {I : Nat → Nat → Int32} {J : Nat → Nat → Int64} {x1 : Int32} {mc ms : Nat} {o : mm_O} {σ' : mm_S} {r : Int64} {I1 : Nat → Nat → Int32} {J1 : Nat → Nat → Int64} (hcall : mm_Call l X 140 d [.ref 26] (mm_Λ, I, J) 0 0 (.inl (some (.long r))) (mm_Λ, I1, J1)) (hr : mm_Run l X 139 (d + 1) 44 [.ref 26, .int x1] [.long r, .long (J 26 26), .ref 26] (mm_Λ, I1, J1) mc ms o σ') : mm_Run l X 139 (d + 1) 35 [.ref 26, .int x1] [] (mm_Λ, I, J) mc ms o σ' := by
  refine mm_aload_n (v := .ref 26) d139_35 rfl (Or.inl ⟨_, rfl⟩) ?_
  refine mm_aload_n (v := .ref 26) d139_36 rfl (Or.inl ⟨_, rfl⟩) ?_
  refine mm_getfield (v := .long (J 26 26)) d139_37 okc9 fk139_173 rfl rfl (by nofun) ?_
  refine mm_aload_n (v := .ref 26) d139_40 rfl (Or.inl ⟨_, rfl⟩) ?_
  exact mm_callV0 (as := []) (S := [.long (J 26 26), .ref 26]) d139_41 okm140 ln139_191 im140 se140 rfl ⟨_, _, rfl⟩ rfl rfl (Nat.le_of_ble_eq_true rfl) (Nat.le_of_ble_eq_true rfl) hcall hr
theorem b139_44 {l : Launch} {X : Nat × (Nat → Int32)} {d : Nat} {I : Nat → Nat → Int32} {J : Nat → Nat → Int64} {x1 : Int32} {s0 : Int64} {s1 : Int64} {mc ms : Nat} {o : mm_O} {σ' : mm_S} {r : Int64} {I1 : Nat → Nat → Int32} {J1 : Nat → Nat → Int64} (hcall : mm_Call l X 109 d [.long s1, .long s0] (mm_Λ, I, J) 0 0 (.inl (some (.long r))) (mm_Λ, I1, J1)) (hr : mm_Run l X 139 (d + 1) 47 [.ref 26, .int x1] [.long r, .ref 26] (mm_Λ, I1, J1) mc ms o σ') : mm_Run l X 139 (d + 1) 44 [.ref 26, .int x1] [.long s0, .long s1, .ref 26] (mm_Λ, I, J) mc ms o σ' := by
  exact mm_callS0 (as := [.long s1, .long s0]) (S := [.ref 26]) d139_44 okm109 ln139_87 st109 rfl rfl (Nat.le_of_ble_eq_true rfl) (Nat.le_of_ble_eq_true rfl) hcall hr
theorem b139_47 {l : Launch} {X : Nat × (Nat → Int32)} {d : Nat} {I : Nat → Nat → Int32} {J : Nat → Nat → Int64} {x1 : Int32} {s0 : Int64} {mc ms : Nat} {o : mm_O} {σ' : mm_S} (hr : mm_Run l X 139 (d + 1) 50 [.ref 26, .int x1] [] (mm_Λ, I, (mm_set J 26 26 s0)) mc ms o σ') : mm_Run l X 139 (d + 1) 47 [.ref 26, .int x1] [.long s0, .ref 26] (mm_Λ, I, J) mc ms o σ' := by
  refine mm_putfield d139_47 okc9 fk139_173 fp139_173 rfl rfl rfl ?_
  exact hr
theorem b139_50 {l : Launch} {X : Nat × (Nat → Int32)} {d : Nat} {I : Nat → Nat → Int32} {J : Nat → Nat → Int64} {x1 : Int32} {mc ms : Nat} {o : mm_O} {σ' : mm_S} (kt : x1 ≤ 1 → mm_Run l X 139 (d + 1) 87 [.ref 26, .int x1] [] (mm_Λ, I, J) mc ms o σ') (kf : ¬ (x1 ≤ 1) → mm_Run l X 139 (d + 1) 55 [.ref 26, .int x1] [] (mm_Λ, I, J) mc ms o σ') : mm_Run l X 139 (d + 1) 50 [.ref 26, .int x1] [] (mm_Λ, I, J) mc ms o σ' := by
  refine mm_iload_n d139_50 rfl ?_
  refine mm_ic d139_51 ci1 ?_
  refine mm_icmp (tgt := 87) d139_52 (by decide) (fun h => ?_) (fun h => ?_)
  · exact kt h
  · exact kf h
theorem b139_55 {l : Launch} {X : Nat × (Nat → Int32)} {d : Nat} {I : Nat → Nat → Int32} {J : Nat → Nat → Int64} {x1 : Int32} {mc ms : Nat} {o : mm_O} {σ' : mm_S} (i66 : vp_in (I 26 21) 256) (i76 : vp_in (I 26 21) 256) (hr : mm_Run l X 139 (d + 1) 87 [.ref 26, .int x1] [] (mm_Λ, (mm_set (mm_set (mm_set I 43 (I 26 21).toNatClampNeg (x1 - 2)) 44 (I 26 21).toNatClampNeg (-1)) 26 21 ((I 26 21) + 1)), J) mc ms o σ') : mm_Run l X 139 (d + 1) 55 [.ref 26, .int x1] [] (mm_Λ, I, J) mc ms o σ' := by
  refine mm_aload_n (v := .ref 26) d139_55 rfl (Or.inl ⟨_, rfl⟩) ?_
  refine mm_getfield (v := .ref 43) d139_56 okc9 fk139_59 rfl rfl (by nofun) ?_
  refine mm_aload_n (v := .ref 26) d139_59 rfl (Or.inl ⟨_, rfl⟩) ?_
  refine mm_getfield (v := .int (I 26 21)) d139_60 okc9 fk139_184 rfl rfl (by nofun) ?_
  refine mm_iload_n d139_63 rfl ?_
  refine mm_ic d139_64 ci2 ?_
  refine mm_isub d139_65 ?_
  refine mm_iastore d139_66 rfl i66 ?_
  refine mm_aload_n (v := .ref 26) d139_67 rfl (Or.inl ⟨_, rfl⟩) ?_
  refine mm_getfield (v := .ref 44) d139_68 okc9 fk139_62 rfl rfl (by nofun) ?_
  refine mm_aload_n (v := .ref 26) d139_71 rfl (Or.inl ⟨_, rfl⟩) ?_
  refine mm_getfield (v := .int (I 26 21)) d139_72 okc9 fk139_184 rfl rfl (by nofun) ?_
  refine mm_ic d139_75 cim1 ?_
  refine mm_iastore d139_76 rfl i76 ?_
  refine mm_aload_n (v := .ref 26) d139_77 rfl (Or.inl ⟨_, rfl⟩) ?_
  refine mm_dup d139_78 rfl ?_
  refine mm_getfield (v := .int (I 26 21)) d139_79 okc9 fk139_184 rfl rfl (by nofun) ?_
  refine mm_ic d139_82 ci1 ?_
  refine mm_iadd d139_83 ?_
  refine mm_putfield d139_84 okc9 fk139_184 fp139_184 rfl rfl rfl ?_
  exact hr
theorem b139_87 {l : Launch} {X : Nat × (Nat → Int32)} {d : Nat} {I : Nat → Nat → Int32} {J : Nat → Nat → Int64} {x1 : Int32} {mc ms : Nat} {o : mm_O} {σ' : mm_S} {r : Int32} {I1 : Nat → Nat → Int32} {J1 : Nat → Nat → Int64} (hcall : mm_Call l X 141 d [.ref 26] (mm_Λ, I, J) 0 0 (.inl (some (.int r))) (mm_Λ, I1, J1)) (hr : mm_Run l X 139 (d + 1) 91 [.ref 26, .int x1] [.int r] (mm_Λ, I1, J1) mc ms o σ') : mm_Run l X 139 (d + 1) 87 [.ref 26, .int x1] [] (mm_Λ, I, J) mc ms o σ' := by
  refine mm_aload_n (v := .ref 26) d139_87 rfl (Or.inl ⟨_, rfl⟩) ?_
  exact mm_callV0 (as := []) (S := []) d139_88 okm141 ln139_195 im141 se141 rfl ⟨_, _, rfl⟩ rfl rfl (Nat.le_of_ble_eq_true rfl) (Nat.le_of_ble_eq_true rfl) hcall hr
theorem b139_91 {l : Launch} {X : Nat × (Nat → Int32)} {d : Nat} {I : Nat → Nat → Int32} {J : Nat → Nat → Int64} {x1 : Int32} {s0 : Int32} {mc ms : Nat} {o : mm_O} {σ' : mm_S} (kt : s0 = 0 → mm_Run l X 139 (d + 1) 98 [.ref 26, .int x1] [] (mm_Λ, I, J) mc ms o σ') (kf : ¬ (s0 = 0) → mm_Run l X 139 (d + 1) 94 [.ref 26, .int x1] [] (mm_Λ, I, J) mc ms o σ') : mm_Run l X 139 (d + 1) 91 [.ref 26, .int x1] [.int s0] (mm_Λ, I, J) mc ms o σ' := by
  refine mm_if (tgt := 98) d139_91 (by decide) (fun h => ?_) (fun h => ?_)
  · exact kt h
  · exact kf h
theorem b139_94 {l : Launch} {X : Nat × (Nat → Int32)} {d : Nat} {I : Nat → Nat → Int32} {J : Nat → Nat → Int64} {x1 : Int32} {mc ms : Nat} {o : mm_O} {σ' : mm_S} (hr : mm_Run l X 139 (d + 1) 99 [.ref 26, .int x1] [.int 0] (mm_Λ, I, J) mc ms o σ') : mm_Run l X 139 (d + 1) 94 [.ref 26, .int x1] [] (mm_Λ, I, J) mc ms o σ' := by
  refine mm_ic d139_94 ci0 ?_
  refine mm_goto (tgt := 99) d139_95 (by decide) ?_
  exact hr
theorem b139_98 {l : Launch} {X : Nat × (Nat → Int32)} {d : Nat} {I : Nat → Nat → Int32} {J : Nat → Nat → Int64} {x1 : Int32} {mc ms : Nat} {o : mm_O} {σ' : mm_S} (hr : mm_Run l X 139 (d + 1) 99 [.ref 26, .int x1] [.int 1] (mm_Λ, I, J) mc ms o σ') : mm_Run l X 139 (d + 1) 98 [.ref 26, .int x1] [] (mm_Λ, I, J) mc ms o σ' := by
  refine mm_ic d139_98 ci1 ?_
  exact hr
theorem b139_99 {l : Launch} {X : Nat × (Nat → Int32)} {d : Nat} {I : Nat → Nat → Int32} {J : Nat → Nat → Int64} {x1 : Int32} {s0 : Int32} {mc ms : Nat}  : mm_Run l X 139 (d + 1) 99 [.ref 26, .int x1] [.int s0] (mm_Λ, I, J) mc ms (.inl (some (.int s0))) (mm_Λ, I, J) := by
  exact mm_ireturn d139_99 rfl
theorem b140_0 {l : Launch} {X : Nat × (Nat → Int32)} {d : Nat} {I : Nat → Nat → Int32} {J : Nat → Nat → Int64}  {mc ms : Nat} {o : mm_O} {σ' : mm_S} (hr : mm_Run l X 140 (d + 1) 4 [.ref 26, .long 1, .null, .int 0] [] (mm_Λ, I, J) mc ms o σ') : mm_Run l X 140 (d + 1) 0 [.ref 26, .null, .null, .null] [] (mm_Λ, I, J) mc ms o σ' := by
  refine mm_lc d140_0 lc1 ?_
  refine mm_lstore_n d140_1 (by decide +kernel) ?_
  refine mm_ic d140_2 ci0 ?_
  refine mm_istore_n d140_3 (by decide +kernel) ?_
  exact hr
theorem b140_4 {l : Launch} {X : Nat × (Nat → Int32)} {d : Nat} {I : Nat → Nat → Int32} {J : Nat → Nat → Int64} {x1 : Int64} {x3 : Int32} {mc ms : Nat} {o : mm_O} {σ' : mm_S} (kt : 256 ≤ x3 → mm_Run l X 140 (d + 1) 63 [.ref 26, .long x1, .null, .int x3] [] (mm_Λ, I, J) mc ms o σ') (kf : ¬ (256 ≤ x3) → mm_Run l X 140 (d + 1) 11 [.ref 26, .long x1, .null, .int x3] [] (mm_Λ, I, J) mc ms o σ') : mm_Run l X 140 (d + 1) 4 [.ref 26, .long x1, .null, .int x3] [] (mm_Λ, I, J) mc ms o σ' := by
  refine mm_iload_n d140_4 rfl ?_
  refine mm_si d140_5 cs256 ?_
  refine mm_icmp (tgt := 63) d140_8 (by decide) (fun h => ?_) (fun h => ?_)
  · exact kt h
  · exact kf h
theorem b140_11 {l : Launch} {X : Nat × (Nat → Int32)} {d : Nat} {I : Nat → Nat → Int32} {J : Nat → Nat → Int64} {x1 : Int64} {x3 : Int32} {mc ms : Nat} {o : mm_O} {σ' : mm_S} (i16 : vp_in x3 256) (kt : ¬ (I 32 x3.toNatClampNeg) = (-2) → mm_Run l X 140 (d + 1) 55 [.ref 26, .long x1, .null, .int x3] [] (mm_Λ, I, J) mc ms o σ') (kf : ¬ (¬ (I 32 x3.toNatClampNeg) = (-2)) → mm_Run l X 140 (d + 1) 22 [.ref 26, .long x1, .null, .int x3] [] (mm_Λ, I, J) mc ms o σ') : mm_Run l X 140 (d + 1) 11 [.ref 26, .long x1, .null, .int x3] [] (mm_Λ, I, J) mc ms o σ' := by
  refine mm_aload_n (v := .ref 26) d140_11 rfl (Or.inl ⟨_, rfl⟩) ?_
  refine mm_getfield (v := .ref 32) d140_12 okc9 fk140_26 rfl rfl (by nofun) ?_
  refine mm_iload_n d140_15 rfl ?_
  refine mm_iaload d140_16 rfl i16 ?_
  refine mm_bi d140_17 cbm2 ?_
  refine mm_icmp (tgt := 55) d140_19 (by decide) (fun h => ?_) (fun h => ?_)
  · exact kt h
  · exact kf h
theorem b140_22 {l : Launch} {X : Nat × (Nat → Int32)} {d : Nat} {I : Nat → Nat → Int32} {J : Nat → Nat → Int64} {x1 : Int64} {x3 : Int32} {mc ms : Nat} {o : mm_O} {σ' : mm_S} (i34 : vp_in x3 256) {r : Int32} {I1 : Nat → Nat → Int32} {J1 : Nat → Nat → Int64} (hcall : mm_Call l X 120 d [.int x3] (mm_Λ, I, J) 0 0 (.inl (some (.int r))) (mm_Λ, I1, J1)) (hr : mm_Run l X 140 (d + 1) 45 [.ref 26, .long x1, .null, .int x3] [.int r, .int ((6 * (I 33 x3.toNatClampNeg)) + (I 26 24)), .ref 30, .long x1] (mm_Λ, I1, J1) mc ms o σ') : mm_Run l X 140 (d + 1) 22 [.ref 26, .long x1, .null, .int x3] [] (mm_Λ, I, J) mc ms o σ' := by
  refine mm_lload_n d140_22 rfl ?_
  refine mm_aload_n (v := .ref 26) d140_23 rfl (Or.inl ⟨_, rfl⟩) ?_
  refine mm_getfield (v := .ref 30) d140_24 okc9 fk140_19 rfl rfl (by nofun) ?_
  refine mm_bi d140_27 cb6 ?_
  refine mm_aload_n (v := .ref 26) d140_29 rfl (Or.inl ⟨_, rfl⟩) ?_
  refine mm_getfield (v := .ref 33) d140_30 okc9 fk140_29 rfl rfl (by nofun) ?_
  refine mm_iload_n d140_33 rfl ?_
  refine mm_iaload d140_34 rfl i34 ?_
  refine mm_imul d140_35 ?_
  refine mm_aload_n (v := .ref 26) d140_36 rfl (Or.inl ⟨_, rfl⟩) ?_
  refine mm_getfield (v := .int (I 26 24)) d140_37 okc9 fk140_181 rfl rfl (by nofun) ?_
  refine mm_iadd d140_40 ?_
  refine mm_iload_n d140_41 rfl ?_
  exact mm_callS0 (as := [.int x3]) (S := [.int ((6 * (I 33 x3.toNatClampNeg)) + (I 26 24)), .ref 30, .long x1]) d140_42 okm120 ln140_124 st120 rfl rfl (Nat.le_of_ble_eq_true rfl) (Nat.le_of_ble_eq_true rfl) hcall hr
theorem b140_45 {l : Launch} {X : Nat × (Nat → Int32)} {d : Nat} {I : Nat → Nat → Int32} {J : Nat → Nat → Int64} {x1 : Int64} {x3 : Int32} {s0 : Int32} {s1 : Int32} {s3 : Int64} {mc ms : Nat} {o : mm_O} {σ' : mm_S} (i48 : vp_in ((s1 - s0) + 1) 36) {r : Int64} {I1 : Nat → Nat → Int32} {J1 : Nat → Nat → Int64} (hcall : mm_Call l X 108 d [.long s3, .long (J 30 ((s1 - s0) + 1).toNatClampNeg)] (mm_Λ, I, J) 0 0 (.inl (some (.long r))) (mm_Λ, I1, J1)) (hr : mm_Run l X 140 (d + 1) 52 [.ref 26, .long x1, .null, .int x3] [.long r] (mm_Λ, I1, J1) mc ms o σ') : mm_Run l X 140 (d + 1) 45 [.ref 26, .long x1, .null, .int x3] [.int s0, .int s1, .ref 30, .long s3] (mm_Λ, I, J) mc ms o σ' := by
  refine mm_isub d140_45 ?_
  refine mm_ic d140_46 ci1 ?_
  refine mm_iadd d140_47 ?_
  refine mm_laload d140_48 rfl i48 ?_
  exact mm_callS0 (as := [.long s3, .long (J 30 ((s1 - s0) + 1).toNatClampNeg)]) (S := []) d140_49 okm108 ln140_79 st108 rfl rfl (Nat.le_of_ble_eq_true rfl) (Nat.le_of_ble_eq_true rfl) hcall hr
theorem b140_52 {l : Launch} {X : Nat × (Nat → Int32)} {d : Nat} {I : Nat → Nat → Int32} {J : Nat → Nat → Int64} {x1 : Int64} {x3 : Int32} {s0 : Int64} {mc ms : Nat} {o : mm_O} {σ' : mm_S} (hr : mm_Run l X 140 (d + 1) 56 [.ref 26, .long x1, .null, .int x3] [.long s0] (mm_Λ, I, J) mc ms o σ') : mm_Run l X 140 (d + 1) 52 [.ref 26, .long x1, .null, .int x3] [.long s0] (mm_Λ, I, J) mc ms o σ' := by
  refine mm_goto (tgt := 56) d140_52 (by decide) ?_
  exact hr
theorem b140_55 {l : Launch} {X : Nat × (Nat → Int32)} {d : Nat} {I : Nat → Nat → Int32} {J : Nat → Nat → Int64} {x1 : Int64} {x3 : Int32} {mc ms : Nat} {o : mm_O} {σ' : mm_S} (hr : mm_Run l X 140 (d + 1) 56 [.ref 26, .long x1, .null, .int x3] [.long x1] (mm_Λ, I, J) mc ms o σ') : mm_Run l X 140 (d + 1) 55 [.ref 26, .long x1, .null, .int x3] [] (mm_Λ, I, J) mc ms o σ' := by
  refine mm_lload_n d140_55 rfl ?_
  exact hr
theorem b140_56 {l : Launch} {X : Nat × (Nat → Int32)} {d : Nat} {I : Nat → Nat → Int32} {J : Nat → Nat → Int64} {x1 : Int64} {x3 : Int32} {s0 : Int64} {mc ms : Nat} {o : mm_O} {σ' : mm_S} (hr : mm_Run l X 140 (d + 1) 4 [.ref 26, .long s0, .null, .int (x3 + 1)] [] (mm_Λ, I, J) mc ms o σ') : mm_Run l X 140 (d + 1) 56 [.ref 26, .long x1, .null, .int x3] [.long s0] (mm_Λ, I, J) mc ms o σ' := by
  refine mm_lstore_n d140_56 (by decide +kernel) ?_
  refine mm_ii d140_57 ci1 rfl (by decide +kernel) ?_
  refine mm_goto (tgt := 4) d140_60 (by decide) ?_
  exact hr
theorem b140_63 {l : Launch} {X : Nat × (Nat → Int32)} {d : Nat} {I : Nat → Nat → Int32} {J : Nat → Nat → Int64} {x1 : Int64} {x3 : Int32} {mc ms : Nat}  : mm_Run l X 140 (d + 1) 63 [.ref 26, .long x1, .null, .int x3] [] (mm_Λ, I, J) mc ms (.inl (some (.long x1))) (mm_Λ, I, J) := by
  refine mm_lload_n d140_63 rfl ?_
  exact mm_lreturn d140_64 rfl
theorem b141_0 {l : Launch} {X : Nat × (Nat → Int32)} {d : Nat} {I : Nat → Nat → Int32} {J : Nat → Nat → Int64}  {mc ms : Nat} {o : mm_O} {σ' : mm_S} (kt : (I 26 21) ≤ 0 → mm_Run l X 141 (d + 1) 16 [.ref 26] [] (mm_Λ, I, J) mc ms o σ') (kf : ¬ ((I 26 21) ≤ 0) → mm_Run l X 141 (d + 1) 7 [.ref 26] [] (mm_Λ, I, J) mc ms o σ') : mm_Run l X 141 (d + 1) 0 [.ref 26] [] (mm_Λ, I, J) mc ms o σ' := by
  refine mm_aload_n (v := .ref 26) d141_0 rfl (Or.inl ⟨_, rfl⟩) ?_
  refine mm_getfield (v := .int (I 26 21)) d141_1 okc9 fk141_184 rfl rfl (by nofun) ?_
  refine mm_if (tgt := 16) d141_4 (by decide) (fun h => ?_) (fun h => ?_)
  · exact kt h
  · exact kf h
theorem b141_7 {l : Launch} {X : Nat × (Nat → Int32)} {d : Nat} {I : Nat → Nat → Int32} {J : Nat → Nat → Int64}  {mc ms : Nat} {o : mm_O} {σ' : mm_S} {r : Int32} {I1 : Nat → Nat → Int32} {J1 : Nat → Nat → Int64} (hcall : mm_Call l X 142 d [.ref 26] (mm_Λ, I, J) 0 0 (.inl (some (.int r))) (mm_Λ, I1, J1)) (hr : mm_Run l X 141 (d + 1) 11 [.ref 26] [.int r] (mm_Λ, I1, J1) mc ms o σ') : mm_Run l X 141 (d + 1) 7 [.ref 26] [] (mm_Λ, I, J) mc ms o σ' := by
  refine mm_aload_n (v := .ref 26) d141_7 rfl (Or.inl ⟨_, rfl⟩) ?_
  exact mm_callV0 (as := []) (S := []) d141_8 okm142 ln141_187 im142 se142 rfl ⟨_, _, rfl⟩ rfl rfl (Nat.le_of_ble_eq_true rfl) (Nat.le_of_ble_eq_true rfl) hcall hr
theorem b141_11 {l : Launch} {X : Nat × (Nat → Int32)} {d : Nat} {I : Nat → Nat → Int32} {J : Nat → Nat → Int64} {s0 : Int32} {mc ms : Nat} {o : mm_O} {σ' : mm_S} (kt : s0 = 0 → mm_Run l X 141 (d + 1) 0 [.ref 26] [] (mm_Λ, I, J) mc ms o σ') (kf : ¬ (s0 = 0) → mm_Run l X 141 (d + 1) 14 [.ref 26] [] (mm_Λ, I, J) mc ms o σ') : mm_Run l X 141 (d + 1) 11 [.ref 26] [.int s0] (mm_Λ, I, J) mc ms o σ' := by
  refine mm_if (tgt := 0) d141_11 (by decide) (fun h => ?_) (fun h => ?_)
  · exact kt h
  · exact kf h
theorem b141_14 {l : Launch} {X : Nat × (Nat → Int32)} {d : Nat} {I : Nat → Nat → Int32} {J : Nat → Nat → Int64}  {mc ms : Nat}  : mm_Run l X 141 (d + 1) 14 [.ref 26] [] (mm_Λ, I, J) mc ms (.inl (some (.int 1))) (mm_Λ, I, J) := by
  refine mm_ic d141_14 ci1 ?_
  exact mm_zreturn d141_15 rfl (by decide)
theorem b141_16 {l : Launch} {X : Nat × (Nat → Int32)} {d : Nat} {I : Nat → Nat → Int32} {J : Nat → Nat → Int64}  {mc ms : Nat}  : mm_Run l X 141 (d + 1) 16 [.ref 26] [] (mm_Λ, I, J) mc ms (.inl (some (.int 0))) (mm_Λ, I, J) := by
  refine mm_ic d141_16 ci0 ?_
  exact mm_zreturn d141_17 rfl (by decide)
theorem b142_0 {l : Launch} {X : Nat × (Nat → Int32)} {d : Nat} {I : Nat → Nat → Int32} {J : Nat → Nat → Int64}  {mc ms : Nat} {o : mm_O} {σ' : mm_S} (i10 : vp_in ((I 26 21) - 1) 256) (i17 : vp_in (I 43 ((I 26 21) - 1).toNatClampNeg) 256) (i29 : vp_in ((I 26 21) - 1) 256) (hr : mm_Run l X 142 (d + 1) 34 [.ref 26, .int (I 43 ((I 26 21) - 1).toNatClampNeg), .int (I 33 (I 43 ((I 26 21) - 1).toNatClampNeg).toNatClampNeg), .int (I 44 ((I 26 21) - 1).toNatClampNeg), .int 0] [] (mm_Λ, I, J) mc ms o σ') : mm_Run l X 142 (d + 1) 0 [.ref 26, .null, .null, .null, .null] [] (mm_Λ, I, J) mc ms o σ' := by
  refine mm_aload_n (v := .ref 26) d142_0 rfl (Or.inl ⟨_, rfl⟩) ?_
  refine mm_getfield (v := .ref 43) d142_1 okc9 fk142_59 rfl rfl (by nofun) ?_
  refine mm_aload_n (v := .ref 26) d142_4 rfl (Or.inl ⟨_, rfl⟩) ?_
  refine mm_getfield (v := .int (I 26 21)) d142_5 okc9 fk142_184 rfl rfl (by nofun) ?_
  refine mm_ic d142_8 ci1 ?_
  refine mm_isub d142_9 ?_
  refine mm_iaload d142_10 rfl i10 ?_
  refine mm_istore_n d142_11 (by decide +kernel) ?_
  refine mm_aload_n (v := .ref 26) d142_12 rfl (Or.inl ⟨_, rfl⟩) ?_
  refine mm_getfield (v := .ref 33) d142_13 okc9 fk142_29 rfl rfl (by nofun) ?_
  refine mm_iload_n d142_16 rfl ?_
  refine mm_iaload d142_17 rfl i17 ?_
  refine mm_istore_n d142_18 (by decide +kernel) ?_
  refine mm_aload_n (v := .ref 26) d142_19 rfl (Or.inl ⟨_, rfl⟩) ?_
  refine mm_getfield (v := .ref 44) d142_20 okc9 fk142_62 rfl rfl (by nofun) ?_
  refine mm_aload_n (v := .ref 26) d142_23 rfl (Or.inl ⟨_, rfl⟩) ?_
  refine mm_getfield (v := .int (I 26 21)) d142_24 okc9 fk142_184 rfl rfl (by nofun) ?_
  refine mm_ic d142_27 ci1 ?_
  refine mm_isub d142_28 ?_
  refine mm_iaload d142_29 rfl i29 ?_
  refine mm_istore_n d142_30 (by decide +kernel) ?_
  refine mm_ic d142_31 ci0 ?_
  refine mm_istore d142_32 (by decide +kernel) ?_
  exact hr
theorem b142_34 {l : Launch} {X : Nat × (Nat → Int32)} {d : Nat} {I : Nat → Nat → Int32} {J : Nat → Nat → Int64} {x1 : Int32} {x2 : Int32} {x3 : Int32} {x4 : Int32} {mc ms : Nat} {o : mm_O} {σ' : mm_S} (kt : x3 < 0 → mm_Run l X 142 (d + 1) 73 [.ref 26, .int x1, .int x2, .int x3, .int x4] [] (mm_Λ, I, J) mc ms o σ') (kf : ¬ (x3 < 0) → mm_Run l X 142 (d + 1) 38 [.ref 26, .int x1, .int x2, .int x3, .int x4] [] (mm_Λ, I, J) mc ms o σ') : mm_Run l X 142 (d + 1) 34 [.ref 26, .int x1, .int x2, .int x3, .int x4] [] (mm_Λ, I, J) mc ms o σ' := by
  refine mm_iload_n d142_34 rfl ?_
  refine mm_if (tgt := 73) d142_35 (by decide) (fun h => ?_) (fun h => ?_)
  · exact kt h
  · exact kf h
theorem b142_38 {l : Launch} {X : Nat × (Nat → Int32)} {d : Nat} {I : Nat → Nat → Int32} {J : Nat → Nat → Int64} {x1 : Int32} {x2 : Int32} {x3 : Int32} {x4 : Int32} {mc ms : Nat} {o : mm_O} {σ' : mm_S} (i49 : vp_in ((4 * x2) + x3) 24) (kt : (I 28 ((4 * x2) + x3).toNatClampNeg) ≤ x4 → mm_Run l X 142 (d + 1) 73 [.ref 26, .int x1, .int x2, .int x3, .int x4] [] (mm_Λ, I, J) mc ms o σ') (kf : ¬ ((I 28 ((4 * x2) + x3).toNatClampNeg) ≤ x4) → mm_Run l X 142 (d + 1) 53 [.ref 26, .int x1, .int x2, .int x3, .int x4] [] (mm_Λ, I, J) mc ms o σ') : mm_Run l X 142 (d + 1) 38 [.ref 26, .int x1, .int x2, .int x3, .int x4] [] (mm_Λ, I, J) mc ms o σ' := by
  refine mm_iload d142_38 rfl ?_
  refine mm_aload_n (v := .ref 26) d142_40 rfl (Or.inl ⟨_, rfl⟩) ?_
  refine mm_getfield (v := .ref 28) d142_41 okc9 fk142_13 rfl rfl (by nofun) ?_
  refine mm_ic d142_44 ci4 ?_
  refine mm_iload_n d142_45 rfl ?_
  refine mm_imul d142_46 ?_
  refine mm_iload_n d142_47 rfl ?_
  refine mm_iadd d142_48 ?_
  refine mm_iaload d142_49 rfl i49 ?_
  refine mm_icmp (tgt := 73) d142_50 (by decide) (fun h => ?_) (fun h => ?_)
  · exact kt h
  · exact kf h
theorem b142_53 {l : Launch} {X : Nat × (Nat → Int32)} {d : Nat} {I : Nat → Nat → Int32} {J : Nat → Nat → Int64} {x1 : Int32} {x2 : Int32} {x3 : Int32} {x4 : Int32} {mc ms : Nat} {o : mm_O} {σ' : mm_S} (i66 : vp_in (((4 * x1) + x4) + 1) 256) (hr : mm_Run l X 142 (d + 1) 34 [.ref 26, .int x1, .int x2, .int x3, .int (x4 + 1)] [] (mm_Λ, (mm_set I 32 (((4 * x1) + x4) + 1).toNatClampNeg (-1)), J) mc ms o σ') : mm_Run l X 142 (d + 1) 53 [.ref 26, .int x1, .int x2, .int x3, .int x4] [] (mm_Λ, I, J) mc ms o σ' := by
  refine mm_aload_n (v := .ref 26) d142_53 rfl (Or.inl ⟨_, rfl⟩) ?_
  refine mm_getfield (v := .ref 32) d142_54 okc9 fk142_26 rfl rfl (by nofun) ?_
  refine mm_ic d142_57 ci4 ?_
  refine mm_iload_n d142_58 rfl ?_
  refine mm_imul d142_59 ?_
  refine mm_iload d142_60 rfl ?_
  refine mm_iadd d142_62 ?_
  refine mm_ic d142_63 ci1 ?_
  refine mm_iadd d142_64 ?_
  refine mm_ic d142_65 cim1 ?_
  refine mm_iastore d142_66 rfl i66 ?_
  refine mm_ii d142_67 ci1 rfl (by decide +kernel) ?_
  refine mm_goto (tgt := 34) d142_70 (by decide) ?_
  exact hr
theorem b142_73 {l : Launch} {X : Nat × (Nat → Int32)} {d : Nat} {I : Nat → Nat → Int32} {J : Nat → Nat → Int64} {x1 : Int32} {x2 : Int32} {x3 : Int32} {x4 : Int32} {mc ms : Nat} {o : mm_O} {σ' : mm_S} (i80 : vp_in x1 256) (hr : mm_Run l X 142 (d + 1) 84 [.ref 26, .int x1, .int x2, .int (x3 + 1), .int x4] [] (mm_Λ, (mm_set I 32 x1.toNatClampNeg (-2)), J) mc ms o σ') : mm_Run l X 142 (d + 1) 73 [.ref 26, .int x1, .int x2, .int x3, .int x4] [] (mm_Λ, I, J) mc ms o σ' := by
  refine mm_aload_n (v := .ref 26) d142_73 rfl (Or.inl ⟨_, rfl⟩) ?_
  refine mm_getfield (v := .ref 32) d142_74 okc9 fk142_26 rfl rfl (by nofun) ?_
  refine mm_iload_n d142_77 rfl ?_
  refine mm_bi d142_78 cbm2 ?_
  refine mm_iastore d142_80 rfl i80 ?_
  refine mm_ii d142_81 ci1 rfl (by decide +kernel) ?_
  exact hr
theorem b142_84 {l : Launch} {X : Nat × (Nat → Int32)} {d : Nat} {I : Nat → Nat → Int32} {J : Nat → Nat → Int64} {x1 : Int32} {x2 : Int32} {x3 : Int32} {x4 : Int32} {mc ms : Nat} {o : mm_O} {σ' : mm_S} (i90 : vp_in x2 6) (kt : (I 27 x2.toNatClampNeg) ≤ x3 → mm_Run l X 142 (d + 1) 124 [.ref 26, .int x1, .int x2, .int x3, .int x4] [] (mm_Λ, I, J) mc ms o σ') (kf : ¬ ((I 27 x2.toNatClampNeg) ≤ x3) → mm_Run l X 142 (d + 1) 94 [.ref 26, .int x1, .int x2, .int x3, .int x4] [] (mm_Λ, I, J) mc ms o σ') : mm_Run l X 142 (d + 1) 84 [.ref 26, .int x1, .int x2, .int x3, .int x4] [] (mm_Λ, I, J) mc ms o σ' := by
  refine mm_iload_n d142_84 rfl ?_
  refine mm_aload_n (v := .ref 26) d142_85 rfl (Or.inl ⟨_, rfl⟩) ?_
  refine mm_getfield (v := .ref 27) d142_86 okc9 fk142_7 rfl rfl (by nofun) ?_
  refine mm_iload_n d142_89 rfl ?_
  refine mm_iaload d142_90 rfl i90 ?_
  refine mm_icmp (tgt := 124) d142_91 (by decide) (fun h => ?_) (fun h => ?_)
  · exact kt h
  · exact kf h
theorem b142_94 {l : Launch} {X : Nat × (Nat → Int32)} {d : Nat} {I : Nat → Nat → Int32} {J : Nat → Nat → Int64} {x1 : Int32} {x2 : Int32} {x3 : Int32} {x4 : Int32} {mc ms : Nat} {o : mm_O} {σ' : mm_S} (i103 : vp_in ((4 * x2) + x3) 24) (kt : (I 28 ((4 * x2) + x3).toNatClampNeg) ≤ 0 → mm_Run l X 142 (d + 1) 124 [.ref 26, .int x1, .int x2, .int x3, .int x4] [] (mm_Λ, I, J) mc ms o σ') (kf : ¬ ((I 28 ((4 * x2) + x3).toNatClampNeg) ≤ 0) → mm_Run l X 142 (d + 1) 107 [.ref 26, .int x1, .int x2, .int x3, .int x4] [] (mm_Λ, I, J) mc ms o σ') : mm_Run l X 142 (d + 1) 94 [.ref 26, .int x1, .int x2, .int x3, .int x4] [] (mm_Λ, I, J) mc ms o σ' := by
  refine mm_aload_n (v := .ref 26) d142_94 rfl (Or.inl ⟨_, rfl⟩) ?_
  refine mm_getfield (v := .ref 28) d142_95 okc9 fk142_13 rfl rfl (by nofun) ?_
  refine mm_ic d142_98 ci4 ?_
  refine mm_iload_n d142_99 rfl ?_
  refine mm_imul d142_100 ?_
  refine mm_iload_n d142_101 rfl ?_
  refine mm_iadd d142_102 ?_
  refine mm_iaload d142_103 rfl i103 ?_
  refine mm_if (tgt := 124) d142_104 (by decide) (fun h => ?_) (fun h => ?_)
  · exact kt h
  · exact kf h
theorem b142_107 {l : Launch} {X : Nat × (Nat → Int32)} {d : Nat} {I : Nat → Nat → Int32} {J : Nat → Nat → Int64} {x1 : Int32} {x2 : Int32} {x3 : Int32} {x4 : Int32} {mc ms : Nat} {o : mm_O} {σ' : mm_S} {r : Int32} {I1 : Nat → Nat → Int32} {J1 : Nat → Nat → Int64} (hcall : mm_Call l X 120 d [.int x1] (mm_Λ, I, J) 0 0 (.inl (some (.int r))) (mm_Λ, I1, J1)) (hr : mm_Run l X 142 (d + 1) 111 [.ref 26, .int x1, .int x2, .int x3, .int x4] [.int r] (mm_Λ, I1, J1) mc ms o σ') : mm_Run l X 142 (d + 1) 107 [.ref 26, .int x1, .int x2, .int x3, .int x4] [] (mm_Λ, I, J) mc ms o σ' := by
  refine mm_iload_n d142_107 rfl ?_
  exact mm_callS0 (as := [.int x1]) (S := []) d142_108 okm120 ln142_124 st120 rfl rfl (Nat.le_of_ble_eq_true rfl) (Nat.le_of_ble_eq_true rfl) hcall hr
theorem b142_111 {l : Launch} {X : Nat × (Nat → Int32)} {d : Nat} {I : Nat → Nat → Int32} {J : Nat → Nat → Int64} {x1 : Int32} {x2 : Int32} {x3 : Int32} {x4 : Int32} {s0 : Int32} {mc ms : Nat} {o : mm_O} {σ' : mm_S} (kt : s0 < (I 26 24) → mm_Run l X 142 (d + 1) 124 [.ref 26, .int x1, .int x2, .int x3, .int x4] [] (mm_Λ, I, J) mc ms o σ') (kf : ¬ (s0 < (I 26 24)) → mm_Run l X 142 (d + 1) 118 [.ref 26, .int x1, .int x2, .int x3, .int x4] [] (mm_Λ, I, J) mc ms o σ') : mm_Run l X 142 (d + 1) 111 [.ref 26, .int x1, .int x2, .int x3, .int x4] [.int s0] (mm_Λ, I, J) mc ms o σ' := by
  refine mm_aload_n (v := .ref 26) d142_111 rfl (Or.inl ⟨_, rfl⟩) ?_
  refine mm_getfield (v := .int (I 26 24)) d142_112 okc9 fk142_181 rfl rfl (by nofun) ?_
  refine mm_icmp (tgt := 124) d142_115 (by decide) (fun h => ?_) (fun h => ?_)
  · exact kt h
  · exact kf h
theorem b142_118 {l : Launch} {X : Nat × (Nat → Int32)} {d : Nat} {I : Nat → Nat → Int32} {J : Nat → Nat → Int64} {x1 : Int32} {x2 : Int32} {x3 : Int32} {x4 : Int32} {mc ms : Nat} {o : mm_O} {σ' : mm_S} (hr : mm_Run l X 142 (d + 1) 84 [.ref 26, .int x1, .int x2, .int (x3 + 1), .int x4] [] (mm_Λ, I, J) mc ms o σ') : mm_Run l X 142 (d + 1) 118 [.ref 26, .int x1, .int x2, .int x3, .int x4] [] (mm_Λ, I, J) mc ms o σ' := by
  refine mm_ii d142_118 ci1 rfl (by decide +kernel) ?_
  refine mm_goto (tgt := 84) d142_121 (by decide) ?_
  exact hr
theorem b142_124 {l : Launch} {X : Nat × (Nat → Int32)} {d : Nat} {I : Nat → Nat → Int32} {J : Nat → Nat → Int64} {x1 : Int32} {x2 : Int32} {x3 : Int32} {x4 : Int32} {mc ms : Nat} {o : mm_O} {σ' : mm_S} (i130 : vp_in x2 6) (kt : x3 < (I 27 x2.toNatClampNeg) → mm_Run l X 142 (d + 1) 146 [.ref 26, .int x1, .int x2, .int x3, .int x4] [] (mm_Λ, I, J) mc ms o σ') (kf : ¬ (x3 < (I 27 x2.toNatClampNeg)) → mm_Run l X 142 (d + 1) 134 [.ref 26, .int x1, .int x2, .int x3, .int x4] [] (mm_Λ, I, J) mc ms o σ') : mm_Run l X 142 (d + 1) 124 [.ref 26, .int x1, .int x2, .int x3, .int x4] [] (mm_Λ, I, J) mc ms o σ' := by
  refine mm_iload_n d142_124 rfl ?_
  refine mm_aload_n (v := .ref 26) d142_125 rfl (Or.inl ⟨_, rfl⟩) ?_
  refine mm_getfield (v := .ref 27) d142_126 okc9 fk142_7 rfl rfl (by nofun) ?_
  refine mm_iload_n d142_129 rfl ?_
  refine mm_iaload d142_130 rfl i130 ?_
  refine mm_icmp (tgt := 146) d142_131 (by decide) (fun h => ?_) (fun h => ?_)
  · exact kt h
  · exact kf h
theorem b142_134 {l : Launch} {X : Nat × (Nat → Int32)} {d : Nat} {I : Nat → Nat → Int32} {J : Nat → Nat → Int64} {x1 : Int32} {x2 : Int32} {x3 : Int32} {x4 : Int32} {mc ms : Nat}  : mm_Run l X 142 (d + 1) 134 [.ref 26, .int x1, .int x2, .int x3, .int x4] [] (mm_Λ, I, J) mc ms (.inl (some (.int 0))) (mm_Λ, (mm_set I 26 21 ((I 26 21) - 1)), J) := by
  refine mm_aload_n (v := .ref 26) d142_134 rfl (Or.inl ⟨_, rfl⟩) ?_
  refine mm_dup d142_135 rfl ?_
  refine mm_getfield (v := .int (I 26 21)) d142_136 okc9 fk142_184 rfl rfl (by nofun) ?_
  refine mm_ic d142_139 ci1 ?_
  refine mm_isub d142_140 ?_
  refine mm_putfield d142_141 okc9 fk142_184 fp142_184 rfl rfl rfl ?_
  refine mm_ic d142_144 ci0 ?_
  exact mm_zreturn d142_145 rfl (by decide)
theorem b142_146 {l : Launch} {X : Nat × (Nat → Int32)} {d : Nat} {I : Nat → Nat → Int32} {J : Nat → Nat → Int64} {x1 : Int32} {x2 : Int32} {x3 : Int32} {x4 : Int32} {mc ms : Nat} {o : mm_O} {σ' : mm_S} (i157 : vp_in ((I 26 21) - 1) 256) (i164 : vp_in x1 256) (hr : mm_Run l X 142 (d + 1) 168 [.ref 26, .int x1, .int x2, .int x3, .int 0] [] (mm_Λ, (mm_set (mm_set I 44 ((I 26 21) - 1).toNatClampNeg x3) 32 x1.toNatClampNeg x3), J) mc ms o σ') : mm_Run l X 142 (d + 1) 146 [.ref 26, .int x1, .int x2, .int x3, .int x4] [] (mm_Λ, I, J) mc ms o σ' := by
  refine mm_aload_n (v := .ref 26) d142_146 rfl (Or.inl ⟨_, rfl⟩) ?_
  refine mm_getfield (v := .ref 44) d142_147 okc9 fk142_62 rfl rfl (by nofun) ?_
  refine mm_aload_n (v := .ref 26) d142_150 rfl (Or.inl ⟨_, rfl⟩) ?_
  refine mm_getfield (v := .int (I 26 21)) d142_151 okc9 fk142_184 rfl rfl (by nofun) ?_
  refine mm_ic d142_154 ci1 ?_
  refine mm_isub d142_155 ?_
  refine mm_iload_n d142_156 rfl ?_
  refine mm_iastore d142_157 rfl i157 ?_
  refine mm_aload_n (v := .ref 26) d142_158 rfl (Or.inl ⟨_, rfl⟩) ?_
  refine mm_getfield (v := .ref 32) d142_159 okc9 fk142_26 rfl rfl (by nofun) ?_
  refine mm_iload_n d142_162 rfl ?_
  refine mm_iload_n d142_163 rfl ?_
  refine mm_iastore d142_164 rfl i164 ?_
  refine mm_ic d142_165 ci0 ?_
  refine mm_istore d142_166 (by decide +kernel) ?_
  exact hr
theorem b142_168 {l : Launch} {X : Nat × (Nat → Int32)} {d : Nat} {I : Nat → Nat → Int32} {J : Nat → Nat → Int64} {x1 : Int32} {x2 : Int32} {x3 : Int32} {x4 : Int32} {mc ms : Nat} {o : mm_O} {σ' : mm_S} (i179 : vp_in ((4 * x2) + x3) 24) (kt : (I 28 ((4 * x2) + x3).toNatClampNeg) ≤ x4 → mm_Run l X 142 (d + 1) 225 [.ref 26, .int x1, .int x2, .int x3, .int x4] [] (mm_Λ, I, J) mc ms o σ') (kf : ¬ ((I 28 ((4 * x2) + x3).toNatClampNeg) ≤ x4) → mm_Run l X 142 (d + 1) 183 [.ref 26, .int x1, .int x2, .int x3, .int x4] [] (mm_Λ, I, J) mc ms o σ') : mm_Run l X 142 (d + 1) 168 [.ref 26, .int x1, .int x2, .int x3, .int x4] [] (mm_Λ, I, J) mc ms o σ' := by
  refine mm_iload d142_168 rfl ?_
  refine mm_aload_n (v := .ref 26) d142_170 rfl (Or.inl ⟨_, rfl⟩) ?_
  refine mm_getfield (v := .ref 28) d142_171 okc9 fk142_13 rfl rfl (by nofun) ?_
  refine mm_ic d142_174 ci4 ?_
  refine mm_iload_n d142_175 rfl ?_
  refine mm_imul d142_176 ?_
  refine mm_iload_n d142_177 rfl ?_
  refine mm_iadd d142_178 ?_
  refine mm_iaload d142_179 rfl i179 ?_
  refine mm_icmp (tgt := 225) d142_180 (by decide) (fun h => ?_) (fun h => ?_)
  · exact kt h
  · exact kf h
theorem b142_183 {l : Launch} {X : Nat × (Nat → Int32)} {d : Nat} {I : Nat → Nat → Int32} {J : Nat → Nat → Int64} {x1 : Int32} {x2 : Int32} {x3 : Int32} {x4 : Int32} {mc ms : Nat} {o : mm_O} {σ' : mm_S} (i197 : vp_in (((4 * x1) + x4) + 1) 256) {r : Int32} {I1 : Nat → Nat → Int32} {J1 : Nat → Nat → Int64} (hcall : mm_Call l X 107 d [.ref 26, .int x2, .int x3, .int x4] (mm_Λ, (mm_set I 32 (((4 * x1) + x4) + 1).toNatClampNeg (-2)), J) 0 0 (.inl (some (.int r))) (mm_Λ, I1, J1)) (hr : mm_Run l X 142 (d + 1) 218 [.ref 26, .int x1, .int x2, .int x3, .int x4] [.int r, .int (((4 * x1) + x4) + 1), .ref 33] (mm_Λ, I1, J1) mc ms o σ') : mm_Run l X 142 (d + 1) 183 [.ref 26, .int x1, .int x2, .int x3, .int x4] [] (mm_Λ, I, J) mc ms o σ' := by
  refine mm_aload_n (v := .ref 26) d142_183 rfl (Or.inl ⟨_, rfl⟩) ?_
  refine mm_getfield (v := .ref 32) d142_184 okc9 fk142_26 rfl rfl (by nofun) ?_
  refine mm_ic d142_187 ci4 ?_
  refine mm_iload_n d142_188 rfl ?_
  refine mm_imul d142_189 ?_
  refine mm_iload d142_190 rfl ?_
  refine mm_iadd d142_192 ?_
  refine mm_ic d142_193 ci1 ?_
  refine mm_iadd d142_194 ?_
  refine mm_bi d142_195 cbm2 ?_
  refine mm_iastore d142_197 rfl i197 ?_
  refine mm_aload_n (v := .ref 26) d142_198 rfl (Or.inl ⟨_, rfl⟩) ?_
  refine mm_getfield (v := .ref 33) d142_199 okc9 fk142_29 rfl rfl (by nofun) ?_
  refine mm_ic d142_202 ci4 ?_
  refine mm_iload_n d142_203 rfl ?_
  refine mm_imul d142_204 ?_
  refine mm_iload d142_205 rfl ?_
  refine mm_iadd d142_207 ?_
  refine mm_ic d142_208 ci1 ?_
  refine mm_iadd d142_209 ?_
  refine mm_aload_n (v := .ref 26) d142_210 rfl (Or.inl ⟨_, rfl⟩) ?_
  refine mm_iload_n d142_211 rfl ?_
  refine mm_iload_n d142_212 rfl ?_
  refine mm_iload d142_213 rfl ?_
  exact mm_callV0 (as := [.int x2, .int x3, .int x4]) (S := [.int (((4 * x1) + x4) + 1), .ref 33]) d142_215 okm107 ln142_75 im107 se107 rfl ⟨_, _, rfl⟩ rfl rfl (Nat.le_of_ble_eq_true rfl) (Nat.le_of_ble_eq_true rfl) hcall hr
theorem b142_218 {l : Launch} {X : Nat × (Nat → Int32)} {d : Nat} {I : Nat → Nat → Int32} {J : Nat → Nat → Int64} {x1 : Int32} {x2 : Int32} {x3 : Int32} {x4 : Int32} {s0 : Int32} {s1 : Int32} {mc ms : Nat} {o : mm_O} {σ' : mm_S} (i218 : vp_in s1 256) (hr : mm_Run l X 142 (d + 1) 168 [.ref 26, .int x1, .int x2, .int x3, .int (x4 + 1)] [] (mm_Λ, (mm_set I 33 s1.toNatClampNeg s0), J) mc ms o σ') : mm_Run l X 142 (d + 1) 218 [.ref 26, .int x1, .int x2, .int x3, .int x4] [.int s0, .int s1, .ref 33] (mm_Λ, I, J) mc ms o σ' := by
  refine mm_iastore d142_218 rfl i218 ?_
  refine mm_ii d142_219 ci1 rfl (by decide +kernel) ?_
  refine mm_goto (tgt := 168) d142_222 (by decide) ?_
  exact hr
theorem b142_225 {l : Launch} {X : Nat × (Nat → Int32)} {d : Nat} {I : Nat → Nat → Int32} {J : Nat → Nat → Int64} {x1 : Int32} {x2 : Int32} {x3 : Int32} {x4 : Int32} {mc ms : Nat}  : mm_Run l X 142 (d + 1) 225 [.ref 26, .int x1, .int x2, .int x3, .int x4] [] (mm_Λ, I, J) mc ms (.inl (some (.int 1))) (mm_Λ, I, J) := by
  refine mm_ic d142_225 ci1 ?_
  exact mm_zreturn d142_226 rfl (by decide)
theorem b143_0 {l : Launch} {X : Nat × (Nat → Int32)} {d : Nat} {I : Nat → Nat → Int32} {J : Nat → Nat → Int64}  {mc ms : Nat}  : mm_Run l X 143 d 0 [.ref 26] [] (mm_Λ, I, J) mc ms (.inl (some (.int (I 26 25)))) (mm_Λ, (mm_set I 26 0 0), J) := by
  refine mm_aload_n (v := .ref 26) d143_0 rfl (Or.inl ⟨_, rfl⟩) ?_
  refine mm_ic d143_1 ci0 ?_
  refine mm_putfield d143_2 okc9 fk143_65 fp143_65 rfl rfl rfl ?_
  refine mm_aload_n (v := .ref 26) d143_5 rfl (Or.inl ⟨_, rfl⟩) ?_
  refine mm_getfield (v := .int (I 26 25)) d143_6 okc9 fk143_170 rfl rfl (by nofun) ?_
  exact mm_ireturn d143_9 rfl
theorem b144_0 {l : Launch} {X : Nat × (Nat → Int32)} {d : Nat} {I : Nat → Nat → Int32} {J : Nat → Nat → Int64}  {mc ms : Nat}  : mm_Run l X 144 d 0 [.ref 26] [] (mm_Λ, I, J) mc ms (.inl (some (.long (J 26 26)))) (mm_Λ, (mm_set I 26 0 0), J) := by
  refine mm_aload_n (v := .ref 26) d144_0 rfl (Or.inl ⟨_, rfl⟩) ?_
  refine mm_ic d144_1 ci0 ?_
  refine mm_putfield d144_2 okc9 fk144_65 fp144_65 rfl rfl rfl ?_
  refine mm_aload_n (v := .ref 26) d144_5 rfl (Or.inl ⟨_, rfl⟩) ?_
  refine mm_getfield (v := .long (J 26 26)) d144_6 okc9 fk144_173 rfl rfl (by nofun) ?_
  exact mm_lreturn d144_9 rfl
