/-! ===== blocks ===== -/
theorem b67_0 {l : Launch} {X : Nat × (Nat → Int32)} {d : Nat} {I : Nat → Nat → Int32} {J : Nat → Nat → Int64}  {mc ms : Nat} {o : mm_O} {σ' : mm_S} {r : Int32} {I1 : Nat → Nat → Int32} {J1 : Nat → Nat → Int64} (hcall : mm_Call l X 68 d [.ref 19] (mm_Λ, I, J) 0 0 (.inl (some (.int r))) (mm_Λ, I1, J1)) (hr : mm_Run l X 67 (d + 1) 7 [.ref 0] [.int r] (mm_Λ, I1, J1) mc ms o σ') : mm_Run l X 67 (d + 1) 0 [.ref 0] [] (mm_Λ, I, J) mc ms o σ' := by
  refine mm_aload_n (v := .ref 0) d67_0 rfl (Or.inl ⟨_, rfl⟩) ?_
  refine mm_getfield (v := .ref 19) d67_1 okc0 fk67_60 rfl rfl (by nofun) ?_
  exact mm_callV0 (as := []) (S := []) d67_4 okm68 ln67_231 im68 se68 rfl ⟨_, _, rfl⟩ rfl rfl (Nat.le_of_ble_eq_true rfl) (Nat.le_of_ble_eq_true rfl) hcall hr
theorem b67_7 {l : Launch} {X : Nat × (Nat → Int32)} {d : Nat} {I : Nat → Nat → Int32} {J : Nat → Nat → Int64} {s0 : Int32} {mc ms : Nat} {o : mm_O} {σ' : mm_S} (kt : s0 < 20 → mm_Run l X 67 (d + 1) 22 [.ref 0] [] (mm_Λ, I, J) mc ms o σ') (kf : ¬ (s0 < 20) → mm_Run l X 67 (d + 1) 12 [.ref 0] [] (mm_Λ, I, J) mc ms o σ') : mm_Run l X 67 (d + 1) 7 [.ref 0] [.int s0] (mm_Λ, I, J) mc ms o σ' := by
  refine mm_bi d67_7 cb20 ?_
  refine mm_icmp (tgt := 22) d67_9 (by decide) (fun h => ?_) (fun h => ?_)
  · exact kt h
  · exact kf h
theorem b67_12 {l : Launch} {X : Nat × (Nat → Int32)} {d : Nat} {I : Nat → Nat → Int32} {J : Nat → Nat → Int64}    : mm_Run l X 67 (d + 1) 12 [.ref 0] [] (mm_Λ, I, J) 1 6 (.inr (mm_ex 2)) (mm_Λ, I, J) := by
  exact thr67_12
theorem b67_22 {l : Launch} {X : Nat × (Nat → Int32)} {d : Nat} {I : Nat → Nat → Int32} {J : Nat → Nat → Int64}  {mc ms : Nat}  : mm_Run l X 67 (d + 1) 22 [.ref 0] [] (mm_Λ, I, J) mc ms (.inl none) (mm_Λ, I, J) := by
  exact mm_vreturn d67_22 rfl
theorem b68_0 {l : Launch} {X : Nat × (Nat → Int32)} {d : Nat} {I : Nat → Nat → Int32} {J : Nat → Nat → Int64}  {mc ms : Nat}  : mm_Run l X 68 d 0 [.ref 19] [] (mm_Λ, I, J) mc ms (.inl (some (.int (I 19 4)))) (mm_Λ, I, J) := by
  refine mm_aload_n (v := .ref 19) d68_0 rfl (Or.inl ⟨_, rfl⟩) ?_
  refine mm_getfield (v := .int (I 19 4)) d68_1 okc7 fk68_24 rfl rfl (by nofun) ?_
  exact mm_ireturn d68_4 rfl
theorem b69_0 {l : Launch} {X : Nat × (Nat → Int32)} {d : Nat} {I : Nat → Nat → Int32} {J : Nat → Nat → Int64} {x1 : Int32} {x2 : Int32} {x3 : Int32} {mc ms : Nat} (i9 : vp_in (I 19 4) 20) (i19 : vp_in (I 19 4) 20) (i29 : vp_in (I 19 4) 20) (i42 : vp_in (I 19 5) 20) : mm_Run l X 69 d 0 [.ref 19, .int x1, .int x2, .int x3] [] (mm_Λ, I, J) mc ms (.inl (some (.int ((I 19 5) + 1)))) (mm_Λ, (mm_set (mm_set (mm_set (mm_set (mm_set (mm_set I 20 (I 19 4).toNatClampNeg x1) 21 (I 19 4).toNatClampNeg x2) 22 (I 19 4).toNatClampNeg x3) 23 (I 19 5).toNatClampNeg (I 19 4)) 19 4 ((I 19 4) + 1)) 19 5 ((I 19 5) + 1)), J) := by
  refine mm_aload_n (v := .ref 19) d69_0 rfl (Or.inl ⟨_, rfl⟩) ?_
  refine mm_getfield (v := .ref 20) d69_1 okc7 fk69_9 rfl rfl (by nofun) ?_
  refine mm_aload_n (v := .ref 19) d69_4 rfl (Or.inl ⟨_, rfl⟩) ?_
  refine mm_getfield (v := .int (I 19 4)) d69_5 okc7 fk69_24 rfl rfl (by nofun) ?_
  refine mm_iload_n d69_8 rfl ?_
  refine mm_iastore d69_9 rfl i9 ?_
  refine mm_aload_n (v := .ref 19) d69_10 rfl (Or.inl ⟨_, rfl⟩) ?_
  refine mm_getfield (v := .ref 21) d69_11 okc7 fk69_15 rfl rfl (by nofun) ?_
  refine mm_aload_n (v := .ref 19) d69_14 rfl (Or.inl ⟨_, rfl⟩) ?_
  refine mm_getfield (v := .int (I 19 4)) d69_15 okc7 fk69_24 rfl rfl (by nofun) ?_
  refine mm_iload_n d69_18 rfl ?_
  refine mm_iastore d69_19 rfl i19 ?_
  refine mm_aload_n (v := .ref 19) d69_20 rfl (Or.inl ⟨_, rfl⟩) ?_
  refine mm_getfield (v := .ref 22) d69_21 okc7 fk69_18 rfl rfl (by nofun) ?_
  refine mm_aload_n (v := .ref 19) d69_24 rfl (Or.inl ⟨_, rfl⟩) ?_
  refine mm_getfield (v := .int (I 19 4)) d69_25 okc7 fk69_24 rfl rfl (by nofun) ?_
  refine mm_iload_n d69_28 rfl ?_
  refine mm_iastore d69_29 rfl i29 ?_
  refine mm_aload_n (v := .ref 19) d69_30 rfl (Or.inl ⟨_, rfl⟩) ?_
  refine mm_getfield (v := .ref 23) d69_31 okc7 fk69_21 rfl rfl (by nofun) ?_
  refine mm_aload_n (v := .ref 19) d69_34 rfl (Or.inl ⟨_, rfl⟩) ?_
  refine mm_getfield (v := .int (I 19 5)) d69_35 okc7 fk69_28 rfl rfl (by nofun) ?_
  refine mm_aload_n (v := .ref 19) d69_38 rfl (Or.inl ⟨_, rfl⟩) ?_
  refine mm_getfield (v := .int (I 19 4)) d69_39 okc7 fk69_24 rfl rfl (by nofun) ?_
  refine mm_iastore d69_42 rfl i42 ?_
  refine mm_aload_n (v := .ref 19) d69_43 rfl (Or.inl ⟨_, rfl⟩) ?_
  refine mm_dup d69_44 rfl ?_
  refine mm_getfield (v := .int (I 19 4)) d69_45 okc7 fk69_24 rfl rfl (by nofun) ?_
  refine mm_ic d69_48 ci1 ?_
  refine mm_iadd d69_49 ?_
  refine mm_putfield d69_50 okc7 fk69_24 fp69_24 rfl rfl rfl ?_
  refine mm_aload_n (v := .ref 19) d69_53 rfl (Or.inl ⟨_, rfl⟩) ?_
  refine mm_dup d69_54 rfl ?_
  refine mm_getfield (v := .int (I 19 5)) d69_55 okc7 fk69_28 rfl rfl (by nofun) ?_
  refine mm_ic d69_58 ci1 ?_
  refine mm_iadd d69_59 ?_
  refine mm_putfield d69_60 okc7 fk69_28 fp69_28 rfl rfl rfl ?_
  refine mm_aload_n (v := .ref 19) d69_63 rfl (Or.inl ⟨_, rfl⟩) ?_
  refine mm_getfield (v := .int ((I 19 5) + 1)) d69_64 okc7 fk69_28 rfl rfl (by nofun) ?_
  exact mm_ireturn d69_67 rfl
theorem b71_0 {l : Launch} {X : Nat × (Nat → Int32)} {d : Nat} {I : Nat → Nat → Int32} {J : Nat → Nat → Int64} {x1 : Int32} {x2 : Int32} {mc ms : Nat} {o : mm_O} {σ' : mm_S} {I1 : Nat → Nat → Int32} {J1 : Nat → Nat → Int64} (hcall : mm_Call l X 65 d [.int x1] (mm_Λ, I, J) 0 0 (.inl none) (mm_Λ, I1, J1)) (hr : mm_Run l X 71 (d + 1) 4 [.ref 0, .int x1, .int x2] [] (mm_Λ, I1, J1) mc ms o σ') : mm_Run l X 71 (d + 1) 0 [.ref 0, .int x1, .int x2] [] (mm_Λ, I, J) mc ms o σ' := by
  refine mm_iload_n d71_0 rfl ?_
  exact mm_callS0 (as := [.int x1]) (S := []) d71_1 okm65 ln71_146 st65 rfl rfl (Nat.le_of_ble_eq_true rfl) (Nat.le_of_ble_eq_true rfl) hcall hr
theorem b71_0t {l : Launch} {X : Nat × (Nat → Int32)} {d : Nat} {I : Nat → Nat → Int32} {J : Nat → Nat → Int64} {x1 : Int32} {x2 : Int32} {mc ms : Nat} {E : String} {I1 : Nat → Nat → Int32} {J1 : Nat → Nat → Int64} (hcall : mm_Call l X 65 d [.int x1] (mm_Λ, I, J) mc ms (.inr E) (mm_Λ, I1, J1)) : mm_Run l X 71 (d + 1) 0 [.ref 0, .int x1, .int x2] [] (mm_Λ, I, J) mc ms (.inr E) (mm_Λ, I1, J1) := by
  refine mm_iload_n d71_0 rfl ?_
  exact mm_thrown_out (mm_callST (as := [.int x1]) (S := []) d71_1 okm65 ln71_146 st65 rfl rfl (Nat.le_of_ble_eq_true rfl) (Nat.le_of_ble_eq_true rfl) hcall) rfl
theorem b71_4 {l : Launch} {X : Nat × (Nat → Int32)} {d : Nat} {I : Nat → Nat → Int32} {J : Nat → Nat → Int64} {x1 : Int32} {x2 : Int32} {mc ms : Nat} {o : mm_O} {σ' : mm_S} {I1 : Nat → Nat → Int32} {J1 : Nat → Nat → Int64} (hcall : mm_Call l X 65 d [.int x2] (mm_Λ, I, J) 0 0 (.inl none) (mm_Λ, I1, J1)) (hr : mm_Run l X 71 (d + 1) 8 [.ref 0, .int x1, .int x2] [] (mm_Λ, I1, J1) mc ms o σ') : mm_Run l X 71 (d + 1) 4 [.ref 0, .int x1, .int x2] [] (mm_Λ, I, J) mc ms o σ' := by
  refine mm_iload_n d71_4 rfl ?_
  exact mm_callS0 (as := [.int x2]) (S := []) d71_5 okm65 ln71_146 st65 rfl rfl (Nat.le_of_ble_eq_true rfl) (Nat.le_of_ble_eq_true rfl) hcall hr
theorem b71_4t {l : Launch} {X : Nat × (Nat → Int32)} {d : Nat} {I : Nat → Nat → Int32} {J : Nat → Nat → Int64} {x1 : Int32} {x2 : Int32} {mc ms : Nat} {E : String} {I1 : Nat → Nat → Int32} {J1 : Nat → Nat → Int64} (hcall : mm_Call l X 65 d [.int x2] (mm_Λ, I, J) mc ms (.inr E) (mm_Λ, I1, J1)) : mm_Run l X 71 (d + 1) 4 [.ref 0, .int x1, .int x2] [] (mm_Λ, I, J) mc ms (.inr E) (mm_Λ, I1, J1) := by
  refine mm_iload_n d71_4 rfl ?_
  exact mm_thrown_out (mm_callST (as := [.int x2]) (S := []) d71_5 okm65 ln71_146 st65 rfl rfl (Nat.le_of_ble_eq_true rfl) (Nat.le_of_ble_eq_true rfl) hcall) rfl
theorem b71_8 {l : Launch} {X : Nat × (Nat → Int32)} {d : Nat} {I : Nat → Nat → Int32} {J : Nat → Nat → Int64} {x1 : Int32} {x2 : Int32} {mc ms : Nat} {o : mm_O} {σ' : mm_S} {I1 : Nat → Nat → Int32} {J1 : Nat → Nat → Int64} (hcall : mm_Call l X 67 d [.ref 0] (mm_Λ, I, J) 0 0 (.inl none) (mm_Λ, I1, J1)) (hr : mm_Run l X 71 (d + 1) 12 [.ref 0, .int x1, .int x2] [] (mm_Λ, I1, J1) mc ms o σ') : mm_Run l X 71 (d + 1) 8 [.ref 0, .int x1, .int x2] [] (mm_Λ, I, J) mc ms o σ' := by
  refine mm_aload_n (v := .ref 0) d71_8 rfl (Or.inl ⟨_, rfl⟩) ?_
  exact mm_callV0 (as := []) (S := []) d71_9 okm67 ln71_151 im67 se67 rfl ⟨_, _, rfl⟩ rfl rfl (Nat.le_of_ble_eq_true rfl) (Nat.le_of_ble_eq_true rfl) hcall hr
theorem b71_8t {l : Launch} {X : Nat × (Nat → Int32)} {d : Nat} {I : Nat → Nat → Int32} {J : Nat → Nat → Int64} {x1 : Int32} {x2 : Int32} {mc ms : Nat} {E : String} {I1 : Nat → Nat → Int32} {J1 : Nat → Nat → Int64} (hcall : mm_Call l X 67 d [.ref 0] (mm_Λ, I, J) mc ms (.inr E) (mm_Λ, I1, J1)) : mm_Run l X 71 (d + 1) 8 [.ref 0, .int x1, .int x2] [] (mm_Λ, I, J) mc ms (.inr E) (mm_Λ, I1, J1) := by
  refine mm_aload_n (v := .ref 0) d71_8 rfl (Or.inl ⟨_, rfl⟩) ?_
  exact mm_thrown_out (mm_callVT (as := []) (S := []) d71_9 okm67 ln71_151 im67 se67 rfl ⟨_, _, rfl⟩ rfl rfl (Nat.le_of_ble_eq_true rfl) (Nat.le_of_ble_eq_true rfl) hcall) rfl
theorem b71_12 {l : Launch} {X : Nat × (Nat → Int32)} {d : Nat} {I : Nat → Nat → Int32} {J : Nat → Nat → Int64} {x1 : Int32} {x2 : Int32} {mc ms : Nat} {o : mm_O} {σ' : mm_S} {r : Int32} {I1 : Nat → Nat → Int32} {J1 : Nat → Nat → Int64} (hcall : mm_Call l X 69 d [.ref 19, .int 4, .int x1, .int x2] (mm_Λ, I, J) 0 0 (.inl (some (.int r))) (mm_Λ, I1, J1)) (hr : mm_Run l X 71 (d + 1) 22 [.ref 0, .int x1, .int x2] [.int r] (mm_Λ, I1, J1) mc ms o σ') : mm_Run l X 71 (d + 1) 12 [.ref 0, .int x1, .int x2] [] (mm_Λ, I, J) mc ms o σ' := by
  refine mm_aload_n (v := .ref 0) d71_12 rfl (Or.inl ⟨_, rfl⟩) ?_
  refine mm_getfield (v := .ref 19) d71_13 okc0 fk71_60 rfl rfl (by nofun) ?_
  refine mm_ic d71_16 ci4 ?_
  refine mm_iload_n d71_17 rfl ?_
  refine mm_iload_n d71_18 rfl ?_
  exact mm_callV0 (as := [.int 4, .int x1, .int x2]) (S := []) d71_19 okm69 ln71_154 im69 se69 rfl ⟨_, _, rfl⟩ rfl rfl (Nat.le_of_ble_eq_true rfl) (Nat.le_of_ble_eq_true rfl) hcall hr
theorem b71_22 {l : Launch} {X : Nat × (Nat → Int32)} {d : Nat} {I : Nat → Nat → Int32} {J : Nat → Nat → Int64} {x1 : Int32} {x2 : Int32} {s0 : Int32} {mc ms : Nat}  : mm_Run l X 71 (d + 1) 22 [.ref 0, .int x1, .int x2] [.int s0] (mm_Λ, I, J) mc ms (.inl (some (.int s0))) (mm_Λ, I, J) := by
  exact mm_ireturn d71_22 rfl
theorem b73_0 {l : Launch} {X : Nat × (Nat → Int32)} {d : Nat} {I : Nat → Nat → Int32} {J : Nat → Nat → Int64} {x1 : Int32} {mc ms : Nat} {o : mm_O} {σ' : mm_S} (kt : x1 < 0 → mm_Run l X 73 (d + 1) 9 [.ref 0, .int x1] [] (mm_Λ, I, J) mc ms o σ') (kf : ¬ (x1 < 0) → mm_Run l X 73 (d + 1) 4 [.ref 0, .int x1] [] (mm_Λ, I, J) mc ms o σ') : mm_Run l X 73 (d + 1) 0 [.ref 0, .int x1] [] (mm_Λ, I, J) mc ms o σ' := by
  refine mm_iload_n d73_0 rfl ?_
  refine mm_if (tgt := 9) d73_1 (by decide) (fun h => ?_) (fun h => ?_)
  · exact kt h
  · exact kf h
theorem b73_4 {l : Launch} {X : Nat × (Nat → Int32)} {d : Nat} {I : Nat → Nat → Int32} {J : Nat → Nat → Int64} {x1 : Int32} {mc ms : Nat} {o : mm_O} {σ' : mm_S} (kt : x1 ≤ 2 → mm_Run l X 73 (d + 1) 19 [.ref 0, .int x1] [] (mm_Λ, I, J) mc ms o σ') (kf : ¬ (x1 ≤ 2) → mm_Run l X 73 (d + 1) 9 [.ref 0, .int x1] [] (mm_Λ, I, J) mc ms o σ') : mm_Run l X 73 (d + 1) 4 [.ref 0, .int x1] [] (mm_Λ, I, J) mc ms o σ' := by
  refine mm_iload_n d73_4 rfl ?_
  refine mm_ic d73_5 ci2 ?_
  refine mm_icmp (tgt := 19) d73_6 (by decide) (fun h => ?_) (fun h => ?_)
  · exact kt h
  · exact kf h
theorem b73_9 {l : Launch} {X : Nat × (Nat → Int32)} {d : Nat} {I : Nat → Nat → Int32} {J : Nat → Nat → Int64} {x1 : Int32}   : mm_Run l X 73 (d + 1) 9 [.ref 0, .int x1] [] (mm_Λ, I, J) 1 6 (.inr (mm_ex 1)) (mm_Λ, I, J) := by
  exact thr73_9
theorem b73_19 {l : Launch} {X : Nat × (Nat → Int32)} {d : Nat} {I : Nat → Nat → Int32} {J : Nat → Nat → Int64} {x1 : Int32} {mc ms : Nat} {o : mm_O} {σ' : mm_S} {r : Int32} {I1 : Nat → Nat → Int32} {J1 : Nat → Nat → Int64} (hcall : mm_Call l X 74 d [.ref 19] (mm_Λ, I, J) 0 0 (.inl (some (.int r))) (mm_Λ, I1, J1)) (hr : mm_Run l X 73 (d + 1) 26 [.ref 0, .int x1] [.int r] (mm_Λ, I1, J1) mc ms o σ') : mm_Run l X 73 (d + 1) 19 [.ref 0, .int x1] [] (mm_Λ, I, J) mc ms o σ' := by
  refine mm_aload_n (v := .ref 0) d73_19 rfl (Or.inl ⟨_, rfl⟩) ?_
  refine mm_getfield (v := .ref 19) d73_20 okc0 fk73_60 rfl rfl (by nofun) ?_
  exact mm_callV0 (as := []) (S := []) d73_23 okm74 ln73_160 im74 se74 rfl ⟨_, _, rfl⟩ rfl rfl (Nat.le_of_ble_eq_true rfl) (Nat.le_of_ble_eq_true rfl) hcall hr
theorem b73_26 {l : Launch} {X : Nat × (Nat → Int32)} {d : Nat} {I : Nat → Nat → Int32} {J : Nat → Nat → Int64} {x1 : Int32} {s0 : Int32} {mc ms : Nat} {o : mm_O} {σ' : mm_S} {r : Int32} {I1 : Nat → Nat → Int32} {J1 : Nat → Nat → Int64} (hcall : mm_Call l X 75 d [.int x1] (mm_Λ, I, J) 0 0 (.inl (some (.int r))) (mm_Λ, I1, J1)) (hr : mm_Run l X 73 (d + 1) 30 [.ref 0, .int x1] [.int r, .int s0] (mm_Λ, I1, J1) mc ms o σ') : mm_Run l X 73 (d + 1) 26 [.ref 0, .int x1] [.int s0] (mm_Λ, I, J) mc ms o σ' := by
  refine mm_iload_n d73_26 rfl ?_
  exact mm_callS0 (as := [.int x1]) (S := [.int s0]) d73_27 okm75 ln73_163 st75 rfl rfl (Nat.le_of_ble_eq_true rfl) (Nat.le_of_ble_eq_true rfl) hcall hr
theorem b73_30 {l : Launch} {X : Nat × (Nat → Int32)} {d : Nat} {I : Nat → Nat → Int32} {J : Nat → Nat → Int64} {x1 : Int32} {s0 : Int32} {s1 : Int32} {mc ms : Nat} {o : mm_O} {σ' : mm_S} (kt : s0 ≤ s1 → mm_Run l X 73 (d + 1) 43 [.ref 0, .int x1] [] (mm_Λ, I, J) mc ms o σ') (kf : ¬ (s0 ≤ s1) → mm_Run l X 73 (d + 1) 33 [.ref 0, .int x1] [] (mm_Λ, I, J) mc ms o σ') : mm_Run l X 73 (d + 1) 30 [.ref 0, .int x1] [.int s0, .int s1] (mm_Λ, I, J) mc ms o σ' := by
  refine mm_icmp (tgt := 43) d73_30 (by decide) (fun h => ?_) (fun h => ?_)
  · exact kt h
  · exact kf h
theorem b73_33 {l : Launch} {X : Nat × (Nat → Int32)} {d : Nat} {I : Nat → Nat → Int32} {J : Nat → Nat → Int64} {x1 : Int32}   : mm_Run l X 73 (d + 1) 33 [.ref 0, .int x1] [] (mm_Λ, I, J) 1 6 (.inr (mm_ex 2)) (mm_Λ, I, J) := by
  exact thr73_33
theorem b73_43 {l : Launch} {X : Nat × (Nat → Int32)} {d : Nat} {I : Nat → Nat → Int32} {J : Nat → Nat → Int64} {x1 : Int32} {mc ms : Nat} {o : mm_O} {σ' : mm_S} {I1 : Nat → Nat → Int32} {J1 : Nat → Nat → Int64} (hcall : mm_Call l X 67 d [.ref 0] (mm_Λ, I, J) 0 0 (.inl none) (mm_Λ, I1, J1)) (hr : mm_Run l X 73 (d + 1) 47 [.ref 0, .int x1] [] (mm_Λ, I1, J1) mc ms o σ') : mm_Run l X 73 (d + 1) 43 [.ref 0, .int x1] [] (mm_Λ, I, J) mc ms o σ' := by
  refine mm_aload_n (v := .ref 0) d73_43 rfl (Or.inl ⟨_, rfl⟩) ?_
  exact mm_callV0 (as := []) (S := []) d73_44 okm67 ln73_151 im67 se67 rfl ⟨_, _, rfl⟩ rfl rfl (Nat.le_of_ble_eq_true rfl) (Nat.le_of_ble_eq_true rfl) hcall hr
theorem b73_43t {l : Launch} {X : Nat × (Nat → Int32)} {d : Nat} {I : Nat → Nat → Int32} {J : Nat → Nat → Int64} {x1 : Int32} {mc ms : Nat} {E : String} {I1 : Nat → Nat → Int32} {J1 : Nat → Nat → Int64} (hcall : mm_Call l X 67 d [.ref 0] (mm_Λ, I, J) mc ms (.inr E) (mm_Λ, I1, J1)) : mm_Run l X 73 (d + 1) 43 [.ref 0, .int x1] [] (mm_Λ, I, J) mc ms (.inr E) (mm_Λ, I1, J1) := by
  refine mm_aload_n (v := .ref 0) d73_43 rfl (Or.inl ⟨_, rfl⟩) ?_
  exact mm_thrown_out (mm_callVT (as := []) (S := []) d73_44 okm67 ln73_151 im67 se67 rfl ⟨_, _, rfl⟩ rfl rfl (Nat.le_of_ble_eq_true rfl) (Nat.le_of_ble_eq_true rfl) hcall) rfl
theorem b73_47 {l : Launch} {X : Nat × (Nat → Int32)} {d : Nat} {I : Nat → Nat → Int32} {J : Nat → Nat → Int64} {x1 : Int32} {mc ms : Nat} {o : mm_O} {σ' : mm_S} {r : Int32} {I1 : Nat → Nat → Int32} {J1 : Nat → Nat → Int64} (hcall : mm_Call l X 76 d [.ref 19, .int x1] (mm_Λ, I, J) 0 0 (.inl (some (.int r))) (mm_Λ, I1, J1)) (hr : mm_Run l X 73 (d + 1) 55 [.ref 0, .int x1] [.int r] (mm_Λ, I1, J1) mc ms o σ') : mm_Run l X 73 (d + 1) 47 [.ref 0, .int x1] [] (mm_Λ, I, J) mc ms o σ' := by
  refine mm_aload_n (v := .ref 0) d73_47 rfl (Or.inl ⟨_, rfl⟩) ?_
  refine mm_getfield (v := .ref 19) d73_48 okc0 fk73_60 rfl rfl (by nofun) ?_
  refine mm_iload_n d73_51 rfl ?_
  exact mm_callV0 (as := [.int x1]) (S := []) d73_52 okm76 ln73_168 im76 se76 rfl ⟨_, _, rfl⟩ rfl rfl (Nat.le_of_ble_eq_true rfl) (Nat.le_of_ble_eq_true rfl) hcall hr
theorem b73_55 {l : Launch} {X : Nat × (Nat → Int32)} {d : Nat} {I : Nat → Nat → Int32} {J : Nat → Nat → Int64} {x1 : Int32} {s0 : Int32} {mc ms : Nat}  : mm_Run l X 73 (d + 1) 55 [.ref 0, .int x1] [.int s0] (mm_Λ, I, J) mc ms (.inl (some (.int s0))) (mm_Λ, I, J) := by
  exact mm_ireturn d73_55 rfl
theorem b74_0 {l : Launch} {X : Nat × (Nat → Int32)} {d : Nat} {I : Nat → Nat → Int32} {J : Nat → Nat → Int64}  {mc ms : Nat}  : mm_Run l X 74 d 0 [.ref 19] [] (mm_Λ, I, J) mc ms (.inl (some (.int (I 19 5)))) (mm_Λ, I, J) := by
  refine mm_aload_n (v := .ref 19) d74_0 rfl (Or.inl ⟨_, rfl⟩) ?_
  refine mm_getfield (v := .int (I 19 5)) d74_1 okc7 fk74_28 rfl rfl (by nofun) ?_
  exact mm_ireturn d74_4 rfl
theorem b75_0 {l : Launch} {X : Nat × (Nat → Int32)} {d : Nat} {I : Nat → Nat → Int32} {J : Nat → Nat → Int64} {x0 : Int32} {mc ms : Nat} {o : mm_O} {σ' : mm_S} (kt : ¬ x0 = 2 → mm_Run l X 75 d 9 [.int x0] [] (mm_Λ, I, J) mc ms o σ') (kf : ¬ (¬ x0 = 2) → mm_Run l X 75 d 5 [.int x0] [] (mm_Λ, I, J) mc ms o σ') : mm_Run l X 75 d 0 [.int x0] [] (mm_Λ, I, J) mc ms o σ' := by
  refine mm_iload_n d75_0 rfl ?_
  refine mm_ic d75_1 ci2 ?_
  refine mm_icmp (tgt := 9) d75_2 (by decide) (fun h => ?_) (fun h => ?_)
  · exact kt h
  · exact kf h
theorem b75_5 {l : Launch} {X : Nat × (Nat → Int32)} {d : Nat} {I : Nat → Nat → Int32} {J : Nat → Nat → Int64} {x0 : Int32} {mc ms : Nat} {o : mm_O} {σ' : mm_S} (hr : mm_Run l X 75 d 10 [.int x0] [.int 1] (mm_Λ, I, J) mc ms o σ') : mm_Run l X 75 d 5 [.int x0] [] (mm_Λ, I, J) mc ms o σ' := by
  refine mm_ic d75_5 ci1 ?_
  refine mm_goto (tgt := 10) d75_6 (by decide) ?_
  exact hr
theorem b75_9 {l : Launch} {X : Nat × (Nat → Int32)} {d : Nat} {I : Nat → Nat → Int32} {J : Nat → Nat → Int64} {x0 : Int32} {mc ms : Nat} {o : mm_O} {σ' : mm_S} (hr : mm_Run l X 75 d 10 [.int x0] [.int 2] (mm_Λ, I, J) mc ms o σ') : mm_Run l X 75 d 9 [.int x0] [] (mm_Λ, I, J) mc ms o σ' := by
  refine mm_ic d75_9 ci2 ?_
  exact hr
theorem b75_10 {l : Launch} {X : Nat × (Nat → Int32)} {d : Nat} {I : Nat → Nat → Int32} {J : Nat → Nat → Int64} {x0 : Int32} {s0 : Int32} {mc ms : Nat}  : mm_Run l X 75 d 10 [.int x0] [.int s0] (mm_Λ, I, J) mc ms (.inl (some (.int s0))) (mm_Λ, I, J) := by
  exact mm_ireturn d75_10 rfl
theorem b76_0 {l : Launch} {X : Nat × (Nat → Int32)} {d : Nat} {I : Nat → Nat → Int32} {J : Nat → Nat → Int64} {x1 : Int32} {mc ms : Nat} {o : mm_O} {σ' : mm_S} {r : Int32} {I1 : Nat → Nat → Int32} {J1 : Nat → Nat → Int64} (hcall : mm_Call l X 75 d [.int x1] (mm_Λ, I, J) 0 0 (.inl (some (.int r))) (mm_Λ, I1, J1)) (hr : mm_Run l X 76 (d + 1) 12 [.ref 19, .int x1, .null, .null] [.int r, .int (I 19 5), .ref 23] (mm_Λ, I1, J1) mc ms o σ') : mm_Run l X 76 (d + 1) 0 [.ref 19, .int x1, .null, .null] [] (mm_Λ, I, J) mc ms o σ' := by
  refine mm_aload_n (v := .ref 19) d76_0 rfl (Or.inl ⟨_, rfl⟩) ?_
  refine mm_getfield (v := .ref 23) d76_1 okc7 fk76_21 rfl rfl (by nofun) ?_
  refine mm_aload_n (v := .ref 19) d76_4 rfl (Or.inl ⟨_, rfl⟩) ?_
  refine mm_getfield (v := .int (I 19 5)) d76_5 okc7 fk76_28 rfl rfl (by nofun) ?_
  refine mm_iload_n d76_8 rfl ?_
  exact mm_callS0 (as := [.int x1]) (S := [.int (I 19 5), .ref 23]) d76_9 okm75 ln76_31 st75 rfl rfl (Nat.le_of_ble_eq_true rfl) (Nat.le_of_ble_eq_true rfl) hcall hr
theorem b76_12 {l : Launch} {X : Nat × (Nat → Int32)} {d : Nat} {I : Nat → Nat → Int32} {J : Nat → Nat → Int64} {x1 : Int32} {s0 : Int32} {s1 : Int32} {mc ms : Nat} {o : mm_O} {σ' : mm_S} (i13 : vp_in (s1 - s0) 20) (i25 : vp_in ((I 19 5) - 1) 20) {r : Int32} {I1 : Nat → Nat → Int32} {J1 : Nat → Nat → Int64} (hcall : mm_Call l X 75 d [.int x1] (mm_Λ, I, J) 0 0 (.inl (some (.int r))) (mm_Λ, I1, J1)) (hr : mm_Run l X 76 (d + 1) 36 [.ref 19, .int x1, .int (I 23 (s1 - s0).toNatClampNeg), .int (I 23 ((I 19 5) - 1).toNatClampNeg)] [.int r, .int (I 19 5), .ref 19] (mm_Λ, I1, J1) mc ms o σ') : mm_Run l X 76 (d + 1) 12 [.ref 19, .int x1, .null, .null] [.int s0, .int s1, .ref 23] (mm_Λ, I, J) mc ms o σ' := by
  refine mm_isub d76_12 ?_
  refine mm_iaload d76_13 rfl i13 ?_
  refine mm_istore_n d76_14 (by decide +kernel) ?_
  refine mm_aload_n (v := .ref 19) d76_15 rfl (Or.inl ⟨_, rfl⟩) ?_
  refine mm_getfield (v := .ref 23) d76_16 okc7 fk76_21 rfl rfl (by nofun) ?_
  refine mm_aload_n (v := .ref 19) d76_19 rfl (Or.inl ⟨_, rfl⟩) ?_
  refine mm_getfield (v := .int (I 19 5)) d76_20 okc7 fk76_28 rfl rfl (by nofun) ?_
  refine mm_ic d76_23 ci1 ?_
  refine mm_isub d76_24 ?_
  refine mm_iaload d76_25 rfl i25 ?_
  refine mm_istore_n d76_26 (by decide +kernel) ?_
  refine mm_aload_n (v := .ref 19) d76_27 rfl (Or.inl ⟨_, rfl⟩) ?_
  refine mm_dup d76_28 rfl ?_
  refine mm_getfield (v := .int (I 19 5)) d76_29 okc7 fk76_28 rfl rfl (by nofun) ?_
  refine mm_iload_n d76_32 rfl ?_
  exact mm_callS0 (as := [.int x1]) (S := [.int (I 19 5), .ref 19]) d76_33 okm75 ln76_31 st75 rfl rfl (Nat.le_of_ble_eq_true rfl) (Nat.le_of_ble_eq_true rfl) hcall hr
theorem b76_36 {l : Launch} {X : Nat × (Nat → Int32)} {d : Nat} {I : Nat → Nat → Int32} {J : Nat → Nat → Int64} {x1 : Int32} {x2 : Int32} {x3 : Int32} {s0 : Int32} {s1 : Int32} {mc ms : Nat} {o : mm_O} {σ' : mm_S} {r : Int32} {I1 : Nat → Nat → Int32} {J1 : Nat → Nat → Int64} (hcall : mm_Call l X 69 d [.ref 19, .int x1, .int x2, .int x3] (mm_Λ, (mm_set I 19 5 (s1 - s0)), J) 0 0 (.inl (some (.int r))) (mm_Λ, I1, J1)) (hr : mm_Run l X 76 (d + 1) 47 [.ref 19, .int x1, .int x2, .int x3] [.int r] (mm_Λ, I1, J1) mc ms o σ') : mm_Run l X 76 (d + 1) 36 [.ref 19, .int x1, .int x2, .int x3] [.int s0, .int s1, .ref 19] (mm_Λ, I, J) mc ms o σ' := by
  refine mm_isub d76_36 ?_
  refine mm_putfield d76_37 okc7 fk76_28 fp76_28 rfl rfl rfl ?_
  refine mm_aload_n (v := .ref 19) d76_40 rfl (Or.inl ⟨_, rfl⟩) ?_
  refine mm_iload_n d76_41 rfl ?_
  refine mm_iload_n d76_42 rfl ?_
  refine mm_iload_n d76_43 rfl ?_
  exact mm_callV0 (as := [.int x1, .int x2, .int x3]) (S := []) d76_44 okm69 ln76_35 im69 se69 rfl ⟨_, _, rfl⟩ rfl rfl (Nat.le_of_ble_eq_true rfl) (Nat.le_of_ble_eq_true rfl) hcall hr
theorem b76_47 {l : Launch} {X : Nat × (Nat → Int32)} {d : Nat} {I : Nat → Nat → Int32} {J : Nat → Nat → Int64} {x1 : Int32} {x2 : Int32} {x3 : Int32} {s0 : Int32} {mc ms : Nat}  : mm_Run l X 76 (d + 1) 47 [.ref 19, .int x1, .int x2, .int x3] [.int s0] (mm_Λ, I, J) mc ms (.inl (some (.int s0))) (mm_Λ, I, J) := by
  exact mm_ireturn d76_47 rfl
theorem b78_0 {l : Launch} {X : Nat × (Nat → Int32)} {d : Nat} {I : Nat → Nat → Int32} {J : Nat → Nat → Int64} {x1 : Int32} {x2 : Int32} {mc ms : Nat} {o : mm_O} {σ' : mm_S} {I1 : Nat → Nat → Int32} {J1 : Nat → Nat → Int64} (hcall : mm_Call l X 17 d [.int x1] (mm_Λ, I, J) 0 0 (.inl none) (mm_Λ, I1, J1)) (hr : mm_Run l X 78 (d + 1) 4 [.ref 0, .int x1, .int x2, .null, .null, .null] [] (mm_Λ, I1, J1) mc ms o σ') : mm_Run l X 78 (d + 1) 0 [.ref 0, .int x1, .int x2, .null, .null, .null] [] (mm_Λ, I, J) mc ms o σ' := by
  refine mm_iload_n d78_0 rfl ?_
  exact mm_callS0 (as := [.int x1]) (S := []) d78_1 okm17 ln78_81 st17 rfl rfl (Nat.le_of_ble_eq_true rfl) (Nat.le_of_ble_eq_true rfl) hcall hr
theorem b78_0t {l : Launch} {X : Nat × (Nat → Int32)} {d : Nat} {I : Nat → Nat → Int32} {J : Nat → Nat → Int64} {x1 : Int32} {x2 : Int32} {mc ms : Nat} {E : String} {I1 : Nat → Nat → Int32} {J1 : Nat → Nat → Int64} (hcall : mm_Call l X 17 d [.int x1] (mm_Λ, I, J) mc ms (.inr E) (mm_Λ, I1, J1)) : mm_Run l X 78 (d + 1) 0 [.ref 0, .int x1, .int x2, .null, .null, .null] [] (mm_Λ, I, J) mc ms (.inr E) (mm_Λ, I1, J1) := by
  refine mm_iload_n d78_0 rfl ?_
  exact mm_thrown_out (mm_callST (as := [.int x1]) (S := []) d78_1 okm17 ln78_81 st17 rfl rfl (Nat.le_of_ble_eq_true rfl) (Nat.le_of_ble_eq_true rfl) hcall) rfl
theorem b78_4 {l : Launch} {X : Nat × (Nat → Int32)} {d : Nat} {I : Nat → Nat → Int32} {J : Nat → Nat → Int64} {x1 : Int32} {x2 : Int32} {mc ms : Nat} {o : mm_O} {σ' : mm_S} {I1 : Nat → Nat → Int32} {J1 : Nat → Nat → Int64} (hcall : mm_Call l X 37 d [.int x2] (mm_Λ, I, J) 0 0 (.inl none) (mm_Λ, I1, J1)) (hr : mm_Run l X 78 (d + 1) 8 [.ref 0, .int x1, .int x2, .null, .null, .null] [] (mm_Λ, I1, J1) mc ms o σ') : mm_Run l X 78 (d + 1) 4 [.ref 0, .int x1, .int x2, .null, .null, .null] [] (mm_Λ, I, J) mc ms o σ' := by
  refine mm_iload_n d78_4 rfl ?_
  exact mm_callS0 (as := [.int x2]) (S := []) d78_5 okm37 ln78_113 st37 rfl rfl (Nat.le_of_ble_eq_true rfl) (Nat.le_of_ble_eq_true rfl) hcall hr
theorem b78_4t {l : Launch} {X : Nat × (Nat → Int32)} {d : Nat} {I : Nat → Nat → Int32} {J : Nat → Nat → Int64} {x1 : Int32} {x2 : Int32} {mc ms : Nat} {E : String} {I1 : Nat → Nat → Int32} {J1 : Nat → Nat → Int64} (hcall : mm_Call l X 37 d [.int x2] (mm_Λ, I, J) mc ms (.inr E) (mm_Λ, I1, J1)) : mm_Run l X 78 (d + 1) 4 [.ref 0, .int x1, .int x2, .null, .null, .null] [] (mm_Λ, I, J) mc ms (.inr E) (mm_Λ, I1, J1) := by
  refine mm_iload_n d78_4 rfl ?_
  exact mm_thrown_out (mm_callST (as := [.int x2]) (S := []) d78_5 okm37 ln78_113 st37 rfl rfl (Nat.le_of_ble_eq_true rfl) (Nat.le_of_ble_eq_true rfl) hcall) rfl
theorem b78_8 {l : Launch} {X : Nat × (Nat → Int32)} {d : Nat} {I : Nat → Nat → Int32} {J : Nat → Nat → Int64} {x1 : Int32} {x2 : Int32} {mc ms : Nat} {o : mm_O} {σ' : mm_S} {I1 : Nat → Nat → Int32} {J1 : Nat → Nat → Int64} (hcall : mm_Call l X 79 d [.ref 0] (mm_Λ, I, J) 0 0 (.inl none) (mm_Λ, I1, J1)) (hr : mm_Run l X 78 (d + 1) 12 [.ref 0, .int x1, .int x2, .null, .null, .null] [] (mm_Λ, I1, J1) mc ms o σ') : mm_Run l X 78 (d + 1) 8 [.ref 0, .int x1, .int x2, .null, .null, .null] [] (mm_Λ, I, J) mc ms o σ' := by
  refine mm_aload_n (v := .ref 0) d78_8 rfl (Or.inl ⟨_, rfl⟩) ?_
  exact mm_callV0 (as := []) (S := []) d78_9 okm79 ln78_174 im79 se79 rfl ⟨_, _, rfl⟩ rfl rfl (Nat.le_of_ble_eq_true rfl) (Nat.le_of_ble_eq_true rfl) hcall hr
theorem b78_8t {l : Launch} {X : Nat × (Nat → Int32)} {d : Nat} {I : Nat → Nat → Int32} {J : Nat → Nat → Int64} {x1 : Int32} {x2 : Int32} {mc ms : Nat} {E : String} {I1 : Nat → Nat → Int32} {J1 : Nat → Nat → Int64} (hcall : mm_Call l X 79 d [.ref 0] (mm_Λ, I, J) mc ms (.inr E) (mm_Λ, I1, J1)) : mm_Run l X 78 (d + 1) 8 [.ref 0, .int x1, .int x2, .null, .null, .null] [] (mm_Λ, I, J) mc ms (.inr E) (mm_Λ, I1, J1) := by
  refine mm_aload_n (v := .ref 0) d78_8 rfl (Or.inl ⟨_, rfl⟩) ?_
  exact mm_thrown_out (mm_callVT (as := []) (S := []) d78_9 okm79 ln78_174 im79 se79 rfl ⟨_, _, rfl⟩ rfl rfl (Nat.le_of_ble_eq_true rfl) (Nat.le_of_ble_eq_true rfl) hcall) rfl
theorem b78_12 {l : Launch} {X : Nat × (Nat → Int32)} {d : Nat} {I : Nat → Nat → Int32} {J : Nat → Nat → Int64} {x1 : Int32} {x2 : Int32} {mc ms : Nat} {o : mm_O} {σ' : mm_S} {r : Int64} {I1 : Nat → Nat → Int32} {J1 : Nat → Nat → Int64} (hcall : mm_Call l X 27 d [.ref 5, .int x1, .int x2] (mm_Λ, I, J) 0 0 (.inl (some (.long r))) (mm_Λ, I1, J1)) (hr : mm_Run l X 78 (d + 1) 21 [.ref 0, .int x1, .int x2, .null, .null, .null] [.long r] (mm_Λ, I1, J1) mc ms o σ') : mm_Run l X 78 (d + 1) 12 [.ref 0, .int x1, .int x2, .null, .null, .null] [] (mm_Λ, I, J) mc ms o σ' := by
  refine mm_aload_n (v := .ref 0) d78_12 rfl (Or.inl ⟨_, rfl⟩) ?_
  refine mm_getfield (v := .ref 5) d78_13 okc0 fk78_21 rfl rfl (by nofun) ?_
  refine mm_iload_n d78_16 rfl ?_
  refine mm_iload_n d78_17 rfl ?_
  exact mm_callV0 (as := [.int x1, .int x2]) (S := []) d78_18 okm27 ln78_116 im27 se27 rfl ⟨_, _, rfl⟩ rfl rfl (Nat.le_of_ble_eq_true rfl) (Nat.le_of_ble_eq_true rfl) hcall hr
theorem b78_21 {l : Launch} {X : Nat × (Nat → Int32)} {d : Nat} {I : Nat → Nat → Int32} {J : Nat → Nat → Int64} {x1 : Int32} {x2 : Int32} {s0 : Int64} {mc ms : Nat} {o : mm_O} {σ' : mm_S} (kt : (lg_cmp s0 1000) ≤ 0 → mm_Run l X 78 (d + 1) 40 [.ref 0, .int x1, .int x2, .long s0, .null, .null] [] (mm_Λ, I, J) mc ms o σ') (kf : ¬ ((lg_cmp s0 1000) ≤ 0) → mm_Run l X 78 (d + 1) 30 [.ref 0, .int x1, .int x2, .long s0, .null, .null] [] (mm_Λ, I, J) mc ms o σ') : mm_Run l X 78 (d + 1) 21 [.ref 0, .int x1, .int x2, .null, .null, .null] [.long s0] (mm_Λ, I, J) mc ms o σ' := by
  refine mm_lstore_n d78_21 (by decide +kernel) ?_
  refine mm_lload_n d78_22 rfl ?_
  refine mm_ldc2 d78_23 kl78_177 ?_
  refine mm_lcmp d78_26 ?_
  refine mm_if (tgt := 40) d78_27 (by decide) (fun h => ?_) (fun h => ?_)
  · exact kt h
  · exact kf h
theorem b78_30 {l : Launch} {X : Nat × (Nat → Int32)} {d : Nat} {I : Nat → Nat → Int32} {J : Nat → Nat → Int64} {x1 : Int32} {x2 : Int32} {x3 : Int64}   : mm_Run l X 78 (d + 1) 30 [.ref 0, .int x1, .int x2, .long x3, .null, .null] [] (mm_Λ, I, J) 1 6 (.inr (mm_ex 2)) (mm_Λ, I, J) := by
  exact thr78_30
theorem b78_40 {l : Launch} {X : Nat × (Nat → Int32)} {d : Nat} {I : Nat → Nat → Int32} {J : Nat → Nat → Int64} {x1 : Int32} {x2 : Int32} {x3 : Int64} {mc ms : Nat} {o : mm_O} {σ' : mm_S} {r : Int32} {I1 : Nat → Nat → Int32} {J1 : Nat → Nat → Int64} (hcall : mm_Call l X 80 d [.ref 0, .int x1, .int x2, .int (x3.toInt32)] (mm_Λ, I, J) 0 0 (.inl (some (.int r))) (mm_Λ, I1, J1)) (hr : mm_Run l X 78 (d + 1) 48 [.ref 0, .int x1, .int x2, .long x3, .null, .null] [.int r] (mm_Λ, I1, J1) mc ms o σ') : mm_Run l X 78 (d + 1) 40 [.ref 0, .int x1, .int x2, .long x3, .null, .null] [] (mm_Λ, I, J) mc ms o σ' := by
  refine mm_aload_n (v := .ref 0) d78_40 rfl (Or.inl ⟨_, rfl⟩) ?_
  refine mm_iload_n d78_41 rfl ?_
  refine mm_iload_n d78_42 rfl ?_
  refine mm_lload_n d78_43 rfl ?_
  refine mm_l2i d78_44 ?_
  exact mm_callV0 (as := [.int x1, .int x2, .int (x3.toInt32)]) (S := []) d78_45 okm80 ln78_181 im80 se80 rfl ⟨_, _, rfl⟩ rfl rfl (Nat.le_of_ble_eq_true rfl) (Nat.le_of_ble_eq_true rfl) hcall hr
theorem b78_48 {l : Launch} {X : Nat × (Nat → Int32)} {d : Nat} {I : Nat → Nat → Int32} {J : Nat → Nat → Int64} {x1 : Int32} {x2 : Int32} {x3 : Int64} {s0 : Int32} {mc ms : Nat} {o : mm_O} {σ' : mm_S} (kt : ¬ s0 = (-1) → mm_Run l X 78 (d + 1) 62 [.ref 0, .int x1, .int x2, .long x3, .null, .int s0] [.ref 0] (mm_Λ, I, J) mc ms o σ') (kf : ¬ (¬ s0 = (-1)) → mm_Run l X 78 (d + 1) 57 [.ref 0, .int x1, .int x2, .long x3, .null, .int s0] [.ref 0] (mm_Λ, I, J) mc ms o σ') : mm_Run l X 78 (d + 1) 48 [.ref 0, .int x1, .int x2, .long x3, .null, .null] [.int s0] (mm_Λ, I, J) mc ms o σ' := by
  refine mm_istore d78_48 (by decide +kernel) ?_
  refine mm_aload_n (v := .ref 0) d78_50 rfl (Or.inl ⟨_, rfl⟩) ?_
  refine mm_iload d78_51 rfl ?_
  refine mm_ic d78_53 cim1 ?_
  refine mm_icmp (tgt := 62) d78_54 (by decide) (fun h => ?_) (fun h => ?_)
  · exact kt h
  · exact kf h
theorem b78_57 {l : Launch} {X : Nat × (Nat → Int32)} {d : Nat} {I : Nat → Nat → Int32} {J : Nat → Nat → Int64} {x1 : Int32} {x2 : Int32} {x3 : Int64} {x5 : Int32} {mc ms : Nat} {o : mm_O} {σ' : mm_S} (hr : mm_Run l X 78 (d + 1) 66 [.ref 0, .int x1, .int x2, .long x3, .null, .int x5] [.int (x3.toInt32), .ref 0] (mm_Λ, I, J) mc ms o σ') : mm_Run l X 78 (d + 1) 57 [.ref 0, .int x1, .int x2, .long x3, .null, .int x5] [.ref 0] (mm_Λ, I, J) mc ms o σ' := by
  refine mm_lload_n d78_57 rfl ?_
  refine mm_l2i d78_58 ?_
  refine mm_goto (tgt := 66) d78_59 (by decide) ?_
  exact hr
theorem b78_62 {l : Launch} {X : Nat × (Nat → Int32)} {d : Nat} {I : Nat → Nat → Int32} {J : Nat → Nat → Int64} {x1 : Int32} {x2 : Int32} {x3 : Int64} {x5 : Int32} {mc ms : Nat} {o : mm_O} {σ' : mm_S} (hr : mm_Run l X 78 (d + 1) 66 [.ref 0, .int x1, .int x2, .long x3, .null, .int x5] [.int (x5 + 1), .ref 0] (mm_Λ, I, J) mc ms o σ') : mm_Run l X 78 (d + 1) 62 [.ref 0, .int x1, .int x2, .long x3, .null, .int x5] [.ref 0] (mm_Λ, I, J) mc ms o σ' := by
  refine mm_iload d78_62 rfl ?_
  refine mm_ic d78_64 ci1 ?_
  refine mm_iadd d78_65 ?_
  exact hr
theorem b78_66 {l : Launch} {X : Nat × (Nat → Int32)} {d : Nat} {I : Nat → Nat → Int32} {J : Nat → Nat → Int64} {x1 : Int32} {x2 : Int32} {x3 : Int64} {x5 : Int32} {s0 : Int32} {mc ms : Nat} {o : mm_O} {σ' : mm_S} (kt : ¬ x5 = (-1) → mm_Run l X 78 (d + 1) 80 [.ref 0, .int x1, .int x2, .long x3, .null, .int x5] [.ref 0] (mm_Λ, (mm_set I 0 8 s0), J) mc ms o σ') (kf : ¬ (¬ x5 = (-1)) → mm_Run l X 78 (d + 1) 76 [.ref 0, .int x1, .int x2, .long x3, .null, .int x5] [.ref 0] (mm_Λ, (mm_set I 0 8 s0), J) mc ms o σ') : mm_Run l X 78 (d + 1) 66 [.ref 0, .int x1, .int x2, .long x3, .null, .int x5] [.int s0, .ref 0] (mm_Λ, I, J) mc ms o σ' := by
  refine mm_putfield d78_66 okc0 fk78_73 fp78_73 rfl rfl rfl ?_
  refine mm_aload_n (v := .ref 0) d78_69 rfl (Or.inl ⟨_, rfl⟩) ?_
  refine mm_iload d78_70 rfl ?_
  refine mm_ic d78_72 cim1 ?_
  refine mm_icmp (tgt := 80) d78_73 (by decide) (fun h => ?_) (fun h => ?_)
  · exact kt h
  · exact kf h
theorem b78_76 {l : Launch} {X : Nat × (Nat → Int32)} {d : Nat} {I : Nat → Nat → Int32} {J : Nat → Nat → Int64} {x1 : Int32} {x2 : Int32} {x3 : Int64} {x5 : Int32} {mc ms : Nat} {o : mm_O} {σ' : mm_S} (hr : mm_Run l X 78 (d + 1) 83 [.ref 0, .int x1, .int x2, .long x3, .null, .int x5] [.long x3, .ref 0] (mm_Λ, I, J) mc ms o σ') : mm_Run l X 78 (d + 1) 76 [.ref 0, .int x1, .int x2, .long x3, .null, .int x5] [.ref 0] (mm_Λ, I, J) mc ms o σ' := by
  refine mm_lload_n d78_76 rfl ?_
  refine mm_goto (tgt := 83) d78_77 (by decide) ?_
  exact hr
theorem b78_80 {l : Launch} {X : Nat × (Nat → Int32)} {d : Nat} {I : Nat → Nat → Int32} {J : Nat → Nat → Int64} {x1 : Int32} {x2 : Int32} {x3 : Int64} {x5 : Int32} {mc ms : Nat} {o : mm_O} {σ' : mm_S} (hr : mm_Run l X 78 (d + 1) 83 [.ref 0, .int x1, .int x2, .long x3, .null, .int x5] [.long (x5.toInt64), .ref 0] (mm_Λ, I, J) mc ms o σ') : mm_Run l X 78 (d + 1) 80 [.ref 0, .int x1, .int x2, .long x3, .null, .int x5] [.ref 0] (mm_Λ, I, J) mc ms o σ' := by
  refine mm_iload d78_80 rfl ?_
  refine mm_i2l d78_82 ?_
  exact hr
theorem b78_83 {l : Launch} {X : Nat × (Nat → Int32)} {d : Nat} {I : Nat → Nat → Int32} {J : Nat → Nat → Int64} {x1 : Int32} {x2 : Int32} {x3 : Int64} {x5 : Int32} {s0 : Int64} {mc ms : Nat} {o : mm_O} {σ' : mm_S} (kt : x5 = (-1) → mm_Run l X 78 (d + 1) 103 [.ref 0, .int x1, .int x2, .long x3, .null, .int x5] [] (mm_Λ, I, (mm_set J 0 9 s0)) mc ms o σ') (kf : ¬ (x5 = (-1)) → mm_Run l X 78 (d + 1) 92 [.ref 0, .int x1, .int x2, .long x3, .null, .int x5] [] (mm_Λ, I, (mm_set J 0 9 s0)) mc ms o σ') : mm_Run l X 78 (d + 1) 83 [.ref 0, .int x1, .int x2, .long x3, .null, .int x5] [.long s0, .ref 0] (mm_Λ, I, J) mc ms o σ' := by
  refine mm_putfield d78_83 okc0 fk78_77 fp78_77 rfl rfl rfl ?_
  refine mm_iload d78_86 rfl ?_
  refine mm_ic d78_88 cim1 ?_
  refine mm_icmp (tgt := 103) d78_89 (by decide) (fun h => ?_) (fun h => ?_)
  · exact kt h
  · exact kf h
theorem b78_92 {l : Launch} {X : Nat × (Nat → Int32)} {d : Nat} {I : Nat → Nat → Int32} {J : Nat → Nat → Int64} {x1 : Int32} {x2 : Int32} {x3 : Int64} {x5 : Int32} {mc ms : Nat} {o : mm_O} {σ' : mm_S} {I1 : Nat → Nat → Int32} {J1 : Nat → Nat → Int64} (hcall : mm_Call l X 47 d [.ref 13, .ref 11] (mm_Λ, I, J) 0 0 (.inl none) (mm_Λ, I1, J1)) (hr : mm_Run l X 78 (d + 1) 103 [.ref 0, .int x1, .int x2, .long x3, .null, .int x5] [] (mm_Λ, I1, J1) mc ms o σ') : mm_Run l X 78 (d + 1) 92 [.ref 0, .int x1, .int x2, .long x3, .null, .int x5] [] (mm_Λ, I, J) mc ms o σ' := by
  refine mm_aload_n (v := .ref 0) d78_92 rfl (Or.inl ⟨_, rfl⟩) ?_
  refine mm_getfield (v := .ref 13) d78_93 okc0 fk78_44 rfl rfl (by nofun) ?_
  refine mm_aload_n (v := .ref 0) d78_96 rfl (Or.inl ⟨_, rfl⟩) ?_
  refine mm_getfield (v := .ref 11) d78_97 okc0 fk78_35 rfl rfl (by nofun) ?_
  exact mm_callV0 (as := [.ref 11]) (S := []) d78_100 okm47 ln78_128 im47 se47 rfl ⟨_, _, rfl⟩ rfl rfl (Nat.le_of_ble_eq_true rfl) (Nat.le_of_ble_eq_true rfl) hcall hr
theorem b78_103 {l : Launch} {X : Nat × (Nat → Int32)} {d : Nat} {I : Nat → Nat → Int32} {J : Nat → Nat → Int64} {x1 : Int32} {x2 : Int32} {x3 : Int64} {x5 : Int32} {mc ms : Nat}  : mm_Run l X 78 (d + 1) 103 [.ref 0, .int x1, .int x2, .long x3, .null, .int x5] [] (mm_Λ, I, J) mc ms (.inl (some (.int x5))) (mm_Λ, I, J) := by
  refine mm_iload d78_103 rfl ?_
  exact mm_ireturn d78_105 rfl
theorem b79_0 {l : Launch} {X : Nat × (Nat → Int32)} {d : Nat} {I : Nat → Nat → Int32} {J : Nat → Nat → Int64}  {mc ms : Nat} {o : mm_O} {σ' : mm_S} {r : Int32} {I1 : Nat → Nat → Int32} {J1 : Nat → Nat → Int64} (hcall : mm_Call l X 74 d [.ref 19] (mm_Λ, I, J) 0 0 (.inl (some (.int r))) (mm_Λ, I1, J1)) (hr : mm_Run l X 79 (d + 1) 7 [.ref 0] [.int r] (mm_Λ, I1, J1) mc ms o σ') : mm_Run l X 79 (d + 1) 0 [.ref 0] [] (mm_Λ, I, J) mc ms o σ' := by
  refine mm_aload_n (v := .ref 0) d79_0 rfl (Or.inl ⟨_, rfl⟩) ?_
  refine mm_getfield (v := .ref 19) d79_1 okc0 fk79_60 rfl rfl (by nofun) ?_
  exact mm_callV0 (as := []) (S := []) d79_4 okm74 ln79_160 im74 se74 rfl ⟨_, _, rfl⟩ rfl rfl (Nat.le_of_ble_eq_true rfl) (Nat.le_of_ble_eq_true rfl) hcall hr
theorem b79_7 {l : Launch} {X : Nat × (Nat → Int32)} {d : Nat} {I : Nat → Nat → Int32} {J : Nat → Nat → Int64} {s0 : Int32} {mc ms : Nat} {o : mm_O} {σ' : mm_S} (kt : ¬ s0 = 0 → mm_Run l X 79 (d + 1) 20 [.ref 0] [] (mm_Λ, I, J) mc ms o σ') (kf : ¬ (¬ s0 = 0) → mm_Run l X 79 (d + 1) 10 [.ref 0] [] (mm_Λ, I, J) mc ms o σ') : mm_Run l X 79 (d + 1) 7 [.ref 0] [.int s0] (mm_Λ, I, J) mc ms o σ' := by
  refine mm_if (tgt := 20) d79_7 (by decide) (fun h => ?_) (fun h => ?_)
  · exact kt h
  · exact kf h
theorem b79_10 {l : Launch} {X : Nat × (Nat → Int32)} {d : Nat} {I : Nat → Nat → Int32} {J : Nat → Nat → Int64}    : mm_Run l X 79 (d + 1) 10 [.ref 0] [] (mm_Λ, I, J) 1 6 (.inr (mm_ex 2)) (mm_Λ, I, J) := by
  exact thr79_10
theorem b79_20 {l : Launch} {X : Nat × (Nat → Int32)} {d : Nat} {I : Nat → Nat → Int32} {J : Nat → Nat → Int64}  {mc ms : Nat}  : mm_Run l X 79 (d + 1) 20 [.ref 0] [] (mm_Λ, I, J) mc ms (.inl none) (mm_Λ, I, J) := by
  exact mm_vreturn d79_20 rfl
theorem b80_0 {l : Launch} {X : Nat × (Nat → Int32)} {d : Nat} {I : Nat → Nat → Int32} {J : Nat → Nat → Int64} {x1 : Int32} {x2 : Int32} {x3 : Int32} {mc ms : Nat} {o : mm_O} {σ' : mm_S} (hr : mm_Run l X 80 (d + 1) 3 [.ref 0, .int x1, .int x2, .int x3, .int 0] [] (mm_Λ, I, J) mc ms o σ') : mm_Run l X 80 (d + 1) 0 [.ref 0, .int x1, .int x2, .int x3, .null] [] (mm_Λ, I, J) mc ms o σ' := by
  refine mm_ic d80_0 ci0 ?_
  refine mm_istore d80_1 (by decide +kernel) ?_
  exact hr
theorem b80_3 {l : Launch} {X : Nat × (Nat → Int32)} {d : Nat} {I : Nat → Nat → Int32} {J : Nat → Nat → Int64} {x1 : Int32} {x2 : Int32} {x3 : Int32} {x4 : Int32} {mc ms : Nat} {o : mm_O} {σ' : mm_S} (kt : x3 ≤ x4 → mm_Run l X 80 (d + 1) 46 [.ref 0, .int x1, .int x2, .int x3, .int x4] [] (mm_Λ, I, J) mc ms o σ') (kf : ¬ (x3 ≤ x4) → mm_Run l X 80 (d + 1) 9 [.ref 0, .int x1, .int x2, .int x3, .int x4] [] (mm_Λ, I, J) mc ms o σ') : mm_Run l X 80 (d + 1) 3 [.ref 0, .int x1, .int x2, .int x3, .int x4] [] (mm_Λ, I, J) mc ms o σ' := by
  refine mm_iload d80_3 rfl ?_
  refine mm_iload_n d80_5 rfl ?_
  refine mm_icmp (tgt := 46) d80_6 (by decide) (fun h => ?_) (fun h => ?_)
  · exact kt h
  · exact kf h
theorem b80_9 {l : Launch} {X : Nat × (Nat → Int32)} {d : Nat} {I : Nat → Nat → Int32} {J : Nat → Nat → Int64} {x1 : Int32} {x2 : Int32} {x3 : Int32} {x4 : Int32} {mc ms : Nat} {o : mm_O} {σ' : mm_S} {I1 : Nat → Nat → Int32} {J1 : Nat → Nat → Int64} (hcall : mm_Call l X 41 d [.ref 13, .int x1, .int x2, .long (x4.toInt64)] (mm_Λ, I, J) 0 0 (.inl none) (mm_Λ, I1, J1)) (hr : mm_Run l X 80 (d + 1) 21 [.ref 0, .int x1, .int x2, .int x3, .int x4] [] (mm_Λ, I1, J1) mc ms o σ') : mm_Run l X 80 (d + 1) 9 [.ref 0, .int x1, .int x2, .int x3, .int x4] [] (mm_Λ, I, J) mc ms o σ' := by
  refine mm_aload_n (v := .ref 0) d80_9 rfl (Or.inl ⟨_, rfl⟩) ?_
  refine mm_getfield (v := .ref 13) d80_10 okc0 fk80_44 rfl rfl (by nofun) ?_
  refine mm_iload_n d80_13 rfl ?_
  refine mm_iload_n d80_14 rfl ?_
  refine mm_iload d80_15 rfl ?_
  refine mm_i2l d80_17 ?_
  exact mm_callV0 (as := [.int x1, .int x2, .long (x4.toInt64)]) (S := []) d80_18 okm41 ln80_124 im41 se41 rfl ⟨_, _, rfl⟩ rfl rfl (Nat.le_of_ble_eq_true rfl) (Nat.le_of_ble_eq_true rfl) hcall hr
theorem b80_21 {l : Launch} {X : Nat × (Nat → Int32)} {d : Nat} {I : Nat → Nat → Int32} {J : Nat → Nat → Int64} {x1 : Int32} {x2 : Int32} {x3 : Int32} {x4 : Int32} {mc ms : Nat} {o : mm_O} {σ' : mm_S} {r : Int32} {I1 : Nat → Nat → Int32} {J1 : Nat → Nat → Int64} (hcall : mm_Call l X 81 d [.ref 19, .ref 13] (mm_Λ, I, J) 0 0 (.inl (some (.int r))) (mm_Λ, I1, J1)) (hr : mm_Run l X 80 (d + 1) 32 [.ref 0, .int x1, .int x2, .int x3, .int x4] [.int r] (mm_Λ, I1, J1) mc ms o σ') : mm_Run l X 80 (d + 1) 21 [.ref 0, .int x1, .int x2, .int x3, .int x4] [] (mm_Λ, I, J) mc ms o σ' := by
  refine mm_aload_n (v := .ref 0) d80_21 rfl (Or.inl ⟨_, rfl⟩) ?_
  refine mm_getfield (v := .ref 19) d80_22 okc0 fk80_60 rfl rfl (by nofun) ?_
  refine mm_aload_n (v := .ref 0) d80_25 rfl (Or.inl ⟨_, rfl⟩) ?_
  refine mm_getfield (v := .ref 13) d80_26 okc0 fk80_44 rfl rfl (by nofun) ?_
  exact mm_callV0 (as := [.ref 13]) (S := []) d80_29 okm81 ln80_206 im81 se81 rfl ⟨_, _, rfl⟩ rfl rfl (Nat.le_of_ble_eq_true rfl) (Nat.le_of_ble_eq_true rfl) hcall hr
theorem b80_32 {l : Launch} {X : Nat × (Nat → Int32)} {d : Nat} {I : Nat → Nat → Int32} {J : Nat → Nat → Int64} {x1 : Int32} {x2 : Int32} {x3 : Int32} {x4 : Int32} {s0 : Int32} {mc ms : Nat} {o : mm_O} {σ' : mm_S} (kt : ¬ s0 = (-2) → mm_Run l X 80 (d + 1) 40 [.ref 0, .int x1, .int x2, .int x3, .int x4] [] (mm_Λ, I, J) mc ms o σ') (kf : ¬ (¬ s0 = (-2)) → mm_Run l X 80 (d + 1) 37 [.ref 0, .int x1, .int x2, .int x3, .int x4] [] (mm_Λ, I, J) mc ms o σ') : mm_Run l X 80 (d + 1) 32 [.ref 0, .int x1, .int x2, .int x3, .int x4] [.int s0] (mm_Λ, I, J) mc ms o σ' := by
  refine mm_bi d80_32 cbm2 ?_
  refine mm_icmp (tgt := 40) d80_34 (by decide) (fun h => ?_) (fun h => ?_)
  · exact kt h
  · exact kf h
theorem b80_37 {l : Launch} {X : Nat × (Nat → Int32)} {d : Nat} {I : Nat → Nat → Int32} {J : Nat → Nat → Int64} {x1 : Int32} {x2 : Int32} {x3 : Int32} {x4 : Int32} {mc ms : Nat}  : mm_Run l X 80 (d + 1) 37 [.ref 0, .int x1, .int x2, .int x3, .int x4] [] (mm_Λ, I, J) mc ms (.inl (some (.int x4))) (mm_Λ, I, J) := by
  refine mm_iload d80_37 rfl ?_
  exact mm_ireturn d80_39 rfl
theorem b80_40 {l : Launch} {X : Nat × (Nat → Int32)} {d : Nat} {I : Nat → Nat → Int32} {J : Nat → Nat → Int64} {x1 : Int32} {x2 : Int32} {x3 : Int32} {x4 : Int32} {mc ms : Nat} {o : mm_O} {σ' : mm_S} (hr : mm_Run l X 80 (d + 1) 3 [.ref 0, .int x1, .int x2, .int x3, .int (x4 + 1)] [] (mm_Λ, I, J) mc ms o σ') : mm_Run l X 80 (d + 1) 40 [.ref 0, .int x1, .int x2, .int x3, .int x4] [] (mm_Λ, I, J) mc ms o σ' := by
  refine mm_ii d80_40 ci1 rfl (by decide +kernel) ?_
  refine mm_goto (tgt := 3) d80_43 (by decide) ?_
  exact hr
theorem b80_46 {l : Launch} {X : Nat × (Nat → Int32)} {d : Nat} {I : Nat → Nat → Int32} {J : Nat → Nat → Int64} {x1 : Int32} {x2 : Int32} {x3 : Int32} {x4 : Int32} {mc ms : Nat}  : mm_Run l X 80 (d + 1) 46 [.ref 0, .int x1, .int x2, .int x3, .int x4] [] (mm_Λ, I, J) mc ms (.inl (some (.int (-1)))) (mm_Λ, I, J) := by
  refine mm_ic d80_46 cim1 ?_
  exact mm_ireturn d80_47 rfl
theorem b81_0 {l : Launch} {X : Nat × (Nat → Int32)} {d : Nat} {I : Nat → Nat → Int32} {J : Nat → Nat → Int64}  {mc ms : Nat} {o : mm_O} {σ' : mm_S} (i11 : vp_in ((I 19 5) - 1) 20) {r : Int32} {I1 : Nat → Nat → Int32} {J1 : Nat → Nat → Int64} (hcall : mm_Call l X 82 d [.ref 19, .int (I 23 ((I 19 5) - 1).toNatClampNeg), .ref 13] (mm_Λ, I, J) 0 0 (.inl (some (.int r))) (mm_Λ, I1, J1)) (hr : mm_Run l X 81 (d + 1) 16 [.ref 19, .ref 13] [.int r] (mm_Λ, I1, J1) mc ms o σ') : mm_Run l X 81 (d + 1) 0 [.ref 19, .ref 13] [] (mm_Λ, I, J) mc ms o σ' := by
  refine mm_aload_n (v := .ref 19) d81_0 rfl (Or.inl ⟨_, rfl⟩) ?_
  refine mm_aload_n (v := .ref 19) d81_1 rfl (Or.inl ⟨_, rfl⟩) ?_
  refine mm_getfield (v := .ref 23) d81_2 okc7 fk81_21 rfl rfl (by nofun) ?_
  refine mm_aload_n (v := .ref 19) d81_5 rfl (Or.inl ⟨_, rfl⟩) ?_
  refine mm_getfield (v := .int (I 19 5)) d81_6 okc7 fk81_28 rfl rfl (by nofun) ?_
  refine mm_ic d81_9 ci1 ?_
  refine mm_isub d81_10 ?_
  refine mm_iaload d81_11 rfl i11 ?_
  refine mm_aload_n (v := .ref 13) d81_12 rfl (Or.inl ⟨_, rfl⟩) ?_
  exact mm_callV0 (as := [.int (I 23 ((I 19 5) - 1).toNatClampNeg), .ref 13]) (S := []) d81_13 okm82 ln81_39 im82 se82 rfl ⟨_, _, rfl⟩ rfl rfl (Nat.le_of_ble_eq_true rfl) (Nat.le_of_ble_eq_true rfl) hcall hr
theorem b81_16 {l : Launch} {X : Nat × (Nat → Int32)} {d : Nat} {I : Nat → Nat → Int32} {J : Nat → Nat → Int64} {s0 : Int32} {mc ms : Nat}  : mm_Run l X 81 (d + 1) 16 [.ref 19, .ref 13] [.int s0] (mm_Λ, I, J) mc ms (.inl (some (.int s0))) (mm_Λ, I, J) := by
  exact mm_ireturn d81_16 rfl
theorem b82_0 {l : Launch} {X : Nat × (Nat → Int32)} {d : Nat} {I : Nat → Nat → Int32} {J : Nat → Nat → Int64} {x1 : Int32} {mc ms : Nat} {o : mm_O} {σ' : mm_S} (i5 : vp_in x1 20) (i12 : vp_in x1 20) (i20 : vp_in x1 20) (hr : mm_Run l X 82 (d + 1) 21 [.ref 19, .int x1, .ref 13, .int (I 21 x1.toNatClampNeg), .int (I 22 x1.toNatClampNeg), .null, .null] [.int (I 20 x1.toNatClampNeg)] (mm_Λ, I, J) mc ms o σ') : mm_Run l X 82 (d + 1) 0 [.ref 19, .int x1, .ref 13, .null, .null, .null, .null] [] (mm_Λ, I, J) mc ms o σ' := by
  refine mm_aload_n (v := .ref 19) d82_0 rfl (Or.inl ⟨_, rfl⟩) ?_
  refine mm_getfield (v := .ref 21) d82_1 okc7 fk82_15 rfl rfl (by nofun) ?_
  refine mm_iload_n d82_4 rfl ?_
  refine mm_iaload d82_5 rfl i5 ?_
  refine mm_istore_n d82_6 (by decide +kernel) ?_
  refine mm_aload_n (v := .ref 19) d82_7 rfl (Or.inl ⟨_, rfl⟩) ?_
  refine mm_getfield (v := .ref 22) d82_8 okc7 fk82_18 rfl rfl (by nofun) ?_
  refine mm_iload_n d82_11 rfl ?_
  refine mm_iaload d82_12 rfl i12 ?_
  refine mm_istore d82_13 (by decide +kernel) ?_
  refine mm_aload_n (v := .ref 19) d82_15 rfl (Or.inl ⟨_, rfl⟩) ?_
  refine mm_getfield (v := .ref 20) d82_16 okc7 fk82_9 rfl rfl (by nofun) ?_
  refine mm_iload_n d82_19 rfl ?_
  refine mm_iaload d82_20 rfl i20 ?_
  exact hr
theorem b82_48 {l : Launch} {X : Nat × (Nat → Int32)} {d : Nat} {I : Nat → Nat → Int32} {J : Nat → Nat → Int64} {x1 : Int32} {x3 : Int32} {x4 : Int32} {mc ms : Nat} {o : mm_O} {σ' : mm_S} {r : Int32} {I1 : Nat → Nat → Int32} {J1 : Nat → Nat → Int64} (hcall : mm_Call l X 83 d [.ref 13, .int x3, .int x4] (mm_Λ, I, J) 0 0 (.inl (some (.int r))) (mm_Λ, I1, J1)) (hr : mm_Run l X 82 (d + 1) 55 [.ref 19, .int x1, .ref 13, .int x3, .int x4, .null, .null] [.int r] (mm_Λ, I1, J1) mc ms o σ') : mm_Run l X 82 (d + 1) 48 [.ref 19, .int x1, .ref 13, .int x3, .int x4, .null, .null] [] (mm_Λ, I, J) mc ms o σ' := by
  refine mm_aload_n (v := .ref 13) d82_48 rfl (Or.inl ⟨_, rfl⟩) ?_
  refine mm_iload_n d82_49 rfl ?_
  refine mm_iload d82_50 rfl ?_
  exact mm_callV0 (as := [.int x3, .int x4]) (S := []) d82_52 okm83 ln82_43 im83 se83 rfl ⟨_, _, rfl⟩ rfl rfl (Nat.le_of_ble_eq_true rfl) (Nat.le_of_ble_eq_true rfl) hcall hr
theorem b82_55 {l : Launch} {X : Nat × (Nat → Int32)} {d : Nat} {I : Nat → Nat → Int32} {J : Nat → Nat → Int64} {x1 : Int32} {x3 : Int32} {x4 : Int32} {s0 : Int32} {mc ms : Nat}  : mm_Run l X 82 (d + 1) 55 [.ref 19, .int x1, .ref 13, .int x3, .int x4, .null, .null] [.int s0] (mm_Λ, I, J) mc ms (.inl (some (.int s0))) (mm_Λ, I, J) := by
  exact mm_ireturn d82_55 rfl
theorem b82_56 {l : Launch} {X : Nat × (Nat → Int32)} {d : Nat} {I : Nat → Nat → Int32} {J : Nat → Nat → Int64} {x1 : Int32} {x3 : Int32} {x4 : Int32} {mc ms : Nat} {o : mm_O} {σ' : mm_S} {r : Int32} {I1 : Nat → Nat → Int32} {J1 : Nat → Nat → Int64} (hcall : mm_Call l X 86 d [.ref 13, .int x3, .int x4] (mm_Λ, I, J) 0 0 (.inl (some (.int r))) (mm_Λ, I1, J1)) (hr : mm_Run l X 82 (d + 1) 63 [.ref 19, .int x1, .ref 13, .int x3, .int x4, .null, .null] [.int r] (mm_Λ, I1, J1) mc ms o σ') : mm_Run l X 82 (d + 1) 56 [.ref 19, .int x1, .ref 13, .int x3, .int x4, .null, .null] [] (mm_Λ, I, J) mc ms o σ' := by
  refine mm_aload_n (v := .ref 13) d82_56 rfl (Or.inl ⟨_, rfl⟩) ?_
  refine mm_iload_n d82_57 rfl ?_
  refine mm_iload d82_58 rfl ?_
  exact mm_callV0 (as := [.int x3, .int x4]) (S := []) d82_60 okm86 ln82_49 im86 se86 rfl ⟨_, _, rfl⟩ rfl rfl (Nat.le_of_ble_eq_true rfl) (Nat.le_of_ble_eq_true rfl) hcall hr
theorem b82_63 {l : Launch} {X : Nat × (Nat → Int32)} {d : Nat} {I : Nat → Nat → Int32} {J : Nat → Nat → Int64} {x1 : Int32} {x3 : Int32} {x4 : Int32} {s0 : Int32} {mc ms : Nat}  : mm_Run l X 82 (d + 1) 63 [.ref 19, .int x1, .ref 13, .int x3, .int x4, .null, .null] [.int s0] (mm_Λ, I, J) mc ms (.inl (some (.int s0))) (mm_Λ, I, J) := by
  exact mm_ireturn d82_63 rfl
theorem b82_64 {l : Launch} {X : Nat × (Nat → Int32)} {d : Nat} {I : Nat → Nat → Int32} {J : Nat → Nat → Int64} {x1 : Int32} {x3 : Int32} {x4 : Int32} {mc ms : Nat} {o : mm_O} {σ' : mm_S} {r : Int32} {I1 : Nat → Nat → Int32} {J1 : Nat → Nat → Int64} (hcall : mm_Call l X 82 d [.ref 19, .int x3, .ref 13] (mm_Λ, I, J) 0 0 (.inl (some (.int r))) (mm_Λ, I1, J1)) (hr : mm_Run l X 82 (d + 1) 70 [.ref 19, .int x1, .ref 13, .int x3, .int x4, .null, .null] [.int r] (mm_Λ, I1, J1) mc ms o σ') : mm_Run l X 82 (d + 1) 64 [.ref 19, .int x1, .ref 13, .int x3, .int x4, .null, .null] [] (mm_Λ, I, J) mc ms o σ' := by
  refine mm_aload_n (v := .ref 19) d82_64 rfl (Or.inl ⟨_, rfl⟩) ?_
  refine mm_iload_n d82_65 rfl ?_
  refine mm_aload_n (v := .ref 13) d82_66 rfl (Or.inl ⟨_, rfl⟩) ?_
  exact mm_callV0 (as := [.int x3, .ref 13]) (S := []) d82_67 okm82 ln82_39 im82 se82 rfl ⟨_, _, rfl⟩ rfl rfl (Nat.le_of_ble_eq_true rfl) (Nat.le_of_ble_eq_true rfl) hcall hr
theorem b82_70 {l : Launch} {X : Nat × (Nat → Int32)} {d : Nat} {I : Nat → Nat → Int32} {J : Nat → Nat → Int64} {x1 : Int32} {x3 : Int32} {x4 : Int32} {s0 : Int32} {mc ms : Nat} {o : mm_O} {σ' : mm_S} {r : Int32} {I1 : Nat → Nat → Int32} {J1 : Nat → Nat → Int64} (hcall : mm_Call l X 88 d [.int s0] (mm_Λ, I, J) 0 0 (.inl (some (.int r))) (mm_Λ, I1, J1)) (hr : mm_Run l X 82 (d + 1) 73 [.ref 19, .int x1, .ref 13, .int x3, .int x4, .null, .null] [.int r] (mm_Λ, I1, J1) mc ms o σ') : mm_Run l X 82 (d + 1) 70 [.ref 19, .int x1, .ref 13, .int x3, .int x4, .null, .null] [.int s0] (mm_Λ, I, J) mc ms o σ' := by
  exact mm_callS0 (as := [.int s0]) (S := []) d82_70 okm88 ln82_52 st88 rfl rfl (Nat.le_of_ble_eq_true rfl) (Nat.le_of_ble_eq_true rfl) hcall hr
theorem b82_73 {l : Launch} {X : Nat × (Nat → Int32)} {d : Nat} {I : Nat → Nat → Int32} {J : Nat → Nat → Int64} {x1 : Int32} {x3 : Int32} {x4 : Int32} {s0 : Int32} {mc ms : Nat}  : mm_Run l X 82 (d + 1) 73 [.ref 19, .int x1, .ref 13, .int x3, .int x4, .null, .null] [.int s0] (mm_Λ, I, J) mc ms (.inl (some (.int s0))) (mm_Λ, I, J) := by
  exact mm_ireturn d82_73 rfl
theorem b82_74 {l : Launch} {X : Nat × (Nat → Int32)} {d : Nat} {I : Nat → Nat → Int32} {J : Nat → Nat → Int64} {x1 : Int32} {x3 : Int32} {x4 : Int32} {mc ms : Nat} {o : mm_O} {σ' : mm_S} {r : Int32} {I1 : Nat → Nat → Int32} {J1 : Nat → Nat → Int64} (hcall : mm_Call l X 82 d [.ref 19, .int x3, .ref 13] (mm_Λ, I, J) 0 0 (.inl (some (.int r))) (mm_Λ, I1, J1)) (hr : mm_Run l X 82 (d + 1) 80 [.ref 19, .int x1, .ref 13, .int x3, .int x4, .null, .null] [.int r] (mm_Λ, I1, J1) mc ms o σ') : mm_Run l X 82 (d + 1) 74 [.ref 19, .int x1, .ref 13, .int x3, .int x4, .null, .null] [] (mm_Λ, I, J) mc ms o σ' := by
  refine mm_aload_n (v := .ref 19) d82_74 rfl (Or.inl ⟨_, rfl⟩) ?_
  refine mm_iload_n d82_75 rfl ?_
  refine mm_aload_n (v := .ref 13) d82_76 rfl (Or.inl ⟨_, rfl⟩) ?_
  exact mm_callV0 (as := [.int x3, .ref 13]) (S := []) d82_77 okm82 ln82_39 im82 se82 rfl ⟨_, _, rfl⟩ rfl rfl (Nat.le_of_ble_eq_true rfl) (Nat.le_of_ble_eq_true rfl) hcall hr
theorem b82_80 {l : Launch} {X : Nat × (Nat → Int32)} {d : Nat} {I : Nat → Nat → Int32} {J : Nat → Nat → Int64} {x1 : Int32} {x3 : Int32} {x4 : Int32} {s0 : Int32} {mc ms : Nat} {o : mm_O} {σ' : mm_S} (i87 : vp_in x1 20) (kt : ¬ (I 20 x1.toNatClampNeg) = 1 → mm_Run l X 82 (d + 1) 97 [.ref 19, .int x1, .ref 13, .int x3, .int x4, .int s0, .null] [] (mm_Λ, I, J) mc ms o σ') (kf : ¬ (¬ (I 20 x1.toNatClampNeg) = 1) → mm_Run l X 82 (d + 1) 92 [.ref 19, .int x1, .ref 13, .int x3, .int x4, .int s0, .null] [] (mm_Λ, I, J) mc ms o σ') : mm_Run l X 82 (d + 1) 80 [.ref 19, .int x1, .ref 13, .int x3, .int x4, .null, .null] [.int s0] (mm_Λ, I, J) mc ms o σ' := by
  refine mm_istore d82_80 (by decide +kernel) ?_
  refine mm_aload_n (v := .ref 19) d82_82 rfl (Or.inl ⟨_, rfl⟩) ?_
  refine mm_getfield (v := .ref 20) d82_83 okc7 fk82_9 rfl rfl (by nofun) ?_
  refine mm_iload_n d82_86 rfl ?_
  refine mm_iaload d82_87 rfl i87 ?_
  refine mm_ic d82_88 ci1 ?_
  refine mm_icmp (tgt := 97) d82_89 (by decide) (fun h => ?_) (fun h => ?_)
  · exact kt h
  · exact kf h
theorem b82_92 {l : Launch} {X : Nat × (Nat → Int32)} {d : Nat} {I : Nat → Nat → Int32} {J : Nat → Nat → Int64} {x1 : Int32} {x3 : Int32} {x4 : Int32} {x5 : Int32} {mc ms : Nat} {o : mm_O} {σ' : mm_S} (hr : mm_Run l X 82 (d + 1) 98 [.ref 19, .int x1, .ref 13, .int x3, .int x4, .int x5, .null] [.int (-2)] (mm_Λ, I, J) mc ms o σ') : mm_Run l X 82 (d + 1) 92 [.ref 19, .int x1, .ref 13, .int x3, .int x4, .int x5, .null] [] (mm_Λ, I, J) mc ms o σ' := by
  refine mm_bi d82_92 cbm2 ?_
  refine mm_goto (tgt := 98) d82_94 (by decide) ?_
  exact hr
theorem b82_97 {l : Launch} {X : Nat × (Nat → Int32)} {d : Nat} {I : Nat → Nat → Int32} {J : Nat → Nat → Int64} {x1 : Int32} {x3 : Int32} {x4 : Int32} {x5 : Int32} {mc ms : Nat} {o : mm_O} {σ' : mm_S} (hr : mm_Run l X 82 (d + 1) 98 [.ref 19, .int x1, .ref 13, .int x3, .int x4, .int x5, .null] [.int (-1)] (mm_Λ, I, J) mc ms o σ') : mm_Run l X 82 (d + 1) 97 [.ref 19, .int x1, .ref 13, .int x3, .int x4, .int x5, .null] [] (mm_Λ, I, J) mc ms o σ' := by
  refine mm_ic d82_97 cim1 ?_
  exact hr
theorem b82_98 {l : Launch} {X : Nat × (Nat → Int32)} {d : Nat} {I : Nat → Nat → Int32} {J : Nat → Nat → Int64} {x1 : Int32} {x3 : Int32} {x4 : Int32} {x5 : Int32} {s0 : Int32} {mc ms : Nat} {o : mm_O} {σ' : mm_S} (kt : ¬ x5 = s0 → mm_Run l X 82 (d + 1) 117 [.ref 19, .int x1, .ref 13, .int x3, .int x4, .int x5, .int s0] [] (mm_Λ, I, J) mc ms o σ') (kf : ¬ (¬ x5 = s0) → mm_Run l X 82 (d + 1) 107 [.ref 19, .int x1, .ref 13, .int x3, .int x4, .int x5, .int s0] [] (mm_Λ, I, J) mc ms o σ') : mm_Run l X 82 (d + 1) 98 [.ref 19, .int x1, .ref 13, .int x3, .int x4, .int x5, .null] [.int s0] (mm_Λ, I, J) mc ms o σ' := by
  refine mm_istore d82_98 (by decide +kernel) ?_
  refine mm_iload d82_100 rfl ?_
  refine mm_iload d82_102 rfl ?_
  refine mm_icmp (tgt := 117) d82_104 (by decide) (fun h => ?_) (fun h => ?_)
  · exact kt h
  · exact kf h
theorem b82_107 {l : Launch} {X : Nat × (Nat → Int32)} {d : Nat} {I : Nat → Nat → Int32} {J : Nat → Nat → Int64} {x1 : Int32} {x3 : Int32} {x4 : Int32} {x5 : Int32} {x6 : Int32} {mc ms : Nat} {o : mm_O} {σ' : mm_S} {r : Int32} {I1 : Nat → Nat → Int32} {J1 : Nat → Nat → Int64} (hcall : mm_Call l X 82 d [.ref 19, .int x4, .ref 13] (mm_Λ, I, J) 0 0 (.inl (some (.int r))) (mm_Λ, I1, J1)) (hr : mm_Run l X 82 (d + 1) 114 [.ref 19, .int x1, .ref 13, .int x3, .int x4, .int x5, .int x6] [.int r] (mm_Λ, I1, J1) mc ms o σ') : mm_Run l X 82 (d + 1) 107 [.ref 19, .int x1, .ref 13, .int x3, .int x4, .int x5, .int x6] [] (mm_Λ, I, J) mc ms o σ' := by
  refine mm_aload_n (v := .ref 19) d82_107 rfl (Or.inl ⟨_, rfl⟩) ?_
  refine mm_iload d82_108 rfl ?_
  refine mm_aload_n (v := .ref 13) d82_110 rfl (Or.inl ⟨_, rfl⟩) ?_
  exact mm_callV0 (as := [.int x4, .ref 13]) (S := []) d82_111 okm82 ln82_39 im82 se82 rfl ⟨_, _, rfl⟩ rfl rfl (Nat.le_of_ble_eq_true rfl) (Nat.le_of_ble_eq_true rfl) hcall hr
theorem b82_114 {l : Launch} {X : Nat × (Nat → Int32)} {d : Nat} {I : Nat → Nat → Int32} {J : Nat → Nat → Int64} {x1 : Int32} {x3 : Int32} {x4 : Int32} {x5 : Int32} {x6 : Int32} {s0 : Int32} {mc ms : Nat} {o : mm_O} {σ' : mm_S} (hr : mm_Run l X 82 (d + 1) 119 [.ref 19, .int x1, .ref 13, .int x3, .int x4, .int x5, .int x6] [.int s0] (mm_Λ, I, J) mc ms o σ') : mm_Run l X 82 (d + 1) 114 [.ref 19, .int x1, .ref 13, .int x3, .int x4, .int x5, .int x6] [.int s0] (mm_Λ, I, J) mc ms o σ' := by
  refine mm_goto (tgt := 119) d82_114 (by decide) ?_
  exact hr
theorem b82_117 {l : Launch} {X : Nat × (Nat → Int32)} {d : Nat} {I : Nat → Nat → Int32} {J : Nat → Nat → Int64} {x1 : Int32} {x3 : Int32} {x4 : Int32} {x5 : Int32} {x6 : Int32} {mc ms : Nat} {o : mm_O} {σ' : mm_S} (hr : mm_Run l X 82 (d + 1) 119 [.ref 19, .int x1, .ref 13, .int x3, .int x4, .int x5, .int x6] [.int x5] (mm_Λ, I, J) mc ms o σ') : mm_Run l X 82 (d + 1) 117 [.ref 19, .int x1, .ref 13, .int x3, .int x4, .int x5, .int x6] [] (mm_Λ, I, J) mc ms o σ' := by
  refine mm_iload d82_117 rfl ?_
  exact hr
theorem b82_119 {l : Launch} {X : Nat × (Nat → Int32)} {d : Nat} {I : Nat → Nat → Int32} {J : Nat → Nat → Int64} {x1 : Int32} {x3 : Int32} {x4 : Int32} {x5 : Int32} {x6 : Int32} {s0 : Int32} {mc ms : Nat}  : mm_Run l X 82 (d + 1) 119 [.ref 19, .int x1, .ref 13, .int x3, .int x4, .int x5, .int x6] [.int s0] (mm_Λ, I, J) mc ms (.inl (some (.int s0))) (mm_Λ, I, J) := by
  exact mm_ireturn d82_119 rfl
theorem b83_0 {l : Launch} {X : Nat × (Nat → Int32)} {d : Nat} {I : Nat → Nat → Int32} {J : Nat → Nat → Int64} {x1 : Int32} {x2 : Int32} {mc ms : Nat} {o : mm_O} {σ' : mm_S} {r : Int32} {I1 : Nat → Nat → Int32} {J1 : Nat → Nat → Int64} (hcall : mm_Call l X 84 d [.ref 13, .int x1] (mm_Λ, I, J) 0 0 (.inl (some (.int r))) (mm_Λ, I1, J1)) (hr : mm_Run l X 83 (d + 1) 5 [.ref 13, .int x1, .int x2, .null] [.int r] (mm_Λ, I1, J1) mc ms o σ') : mm_Run l X 83 (d + 1) 0 [.ref 13, .int x1, .int x2, .null] [] (mm_Λ, I, J) mc ms o σ' := by
  refine mm_aload_n (v := .ref 13) d83_0 rfl (Or.inl ⟨_, rfl⟩) ?_
  refine mm_iload_n d83_1 rfl ?_
  exact mm_callV0 (as := [.int x1]) (S := []) d83_2 okm84 ln83_97 im84 se84 rfl ⟨_, _, rfl⟩ rfl rfl (Nat.le_of_ble_eq_true rfl) (Nat.le_of_ble_eq_true rfl) hcall hr
theorem b83_5 {l : Launch} {X : Nat × (Nat → Int32)} {d : Nat} {I : Nat → Nat → Int32} {J : Nat → Nat → Int64} {x1 : Int32} {x2 : Int32} {s0 : Int32} {mc ms : Nat} {o : mm_O} {σ' : mm_S} (kt : ¬ s0 = (-1) → mm_Run l X 83 (d + 1) 14 [.ref 13, .int x1, .int x2, .int s0] [] (mm_Λ, I, J) mc ms o σ') (kf : ¬ (¬ s0 = (-1)) → mm_Run l X 83 (d + 1) 11 [.ref 13, .int x1, .int x2, .int s0] [] (mm_Λ, I, J) mc ms o σ') : mm_Run l X 83 (d + 1) 5 [.ref 13, .int x1, .int x2, .null] [.int s0] (mm_Λ, I, J) mc ms o σ' := by
  refine mm_istore_n d83_5 (by decide +kernel) ?_
  refine mm_iload_n d83_6 rfl ?_
  refine mm_ic d83_7 cim1 ?_
  refine mm_icmp (tgt := 14) d83_8 (by decide) (fun h => ?_) (fun h => ?_)
  · exact kt h
  · exact kf h
theorem b83_11 {l : Launch} {X : Nat × (Nat → Int32)} {d : Nat} {I : Nat → Nat → Int32} {J : Nat → Nat → Int64} {x1 : Int32} {x2 : Int32} {x3 : Int32} {mc ms : Nat}  : mm_Run l X 83 (d + 1) 11 [.ref 13, .int x1, .int x2, .int x3] [] (mm_Λ, I, J) mc ms (.inl (some (.int (-2)))) (mm_Λ, I, J) := by
  refine mm_bi d83_11 cbm2 ?_
  exact mm_ireturn d83_13 rfl
theorem b83_14 {l : Launch} {X : Nat × (Nat → Int32)} {d : Nat} {I : Nat → Nat → Int32} {J : Nat → Nat → Int64} {x1 : Int32} {x2 : Int32} {x3 : Int32} {mc ms : Nat} {o : mm_O} {σ' : mm_S} (kt : ¬ x3 = x1 → mm_Run l X 83 (d + 1) 30 [.ref 13, .int x1, .int x2, .int x3] [] (mm_Λ, I, J) mc ms o σ') (kf : ¬ (¬ x3 = x1) → mm_Run l X 83 (d + 1) 19 [.ref 13, .int x1, .int x2, .int x3] [] (mm_Λ, I, J) mc ms o σ') : mm_Run l X 83 (d + 1) 14 [.ref 13, .int x1, .int x2, .int x3] [] (mm_Λ, I, J) mc ms o σ' := by
  refine mm_iload_n d83_14 rfl ?_
  refine mm_iload_n d83_15 rfl ?_
  refine mm_icmp (tgt := 30) d83_16 (by decide) (fun h => ?_) (fun h => ?_)
  · exact kt h
  · exact kf h
theorem b83_19 {l : Launch} {X : Nat × (Nat → Int32)} {d : Nat} {I : Nat → Nat → Int32} {J : Nat → Nat → Int64} {x1 : Int32} {x2 : Int32} {x3 : Int32} {mc ms : Nat} {o : mm_O} {σ' : mm_S} (i24 : vp_in x1 256) (kt : ¬ (I 15 x1.toNatClampNeg) = (-2) → mm_Run l X 83 (d + 1) 32 [.ref 13, .int x1, .int x2, .int x3] [] (mm_Λ, I, J) mc ms o σ') (kf : ¬ (¬ (I 15 x1.toNatClampNeg) = (-2)) → mm_Run l X 83 (d + 1) 30 [.ref 13, .int x1, .int x2, .int x3] [] (mm_Λ, I, J) mc ms o σ') : mm_Run l X 83 (d + 1) 19 [.ref 13, .int x1, .int x2, .int x3] [] (mm_Λ, I, J) mc ms o σ' := by
  refine mm_aload_n (v := .ref 13) d83_19 rfl (Or.inl ⟨_, rfl⟩) ?_
  refine mm_getfield (v := .ref 15) d83_20 okc5 fk83_15 rfl rfl (by nofun) ?_
  refine mm_iload_n d83_23 rfl ?_
  refine mm_iaload d83_24 rfl i24 ?_
  refine mm_bi d83_25 cbm2 ?_
  refine mm_icmp (tgt := 32) d83_27 (by decide) (fun h => ?_) (fun h => ?_)
  · exact kt h
  · exact kf h
theorem b83_30 {l : Launch} {X : Nat × (Nat → Int32)} {d : Nat} {I : Nat → Nat → Int32} {J : Nat → Nat → Int64} {x1 : Int32} {x2 : Int32} {x3 : Int32} {mc ms : Nat}  : mm_Run l X 83 (d + 1) 30 [.ref 13, .int x1, .int x2, .int x3] [] (mm_Λ, I, J) mc ms (.inl (some (.int x3))) (mm_Λ, I, J) := by
  refine mm_iload_n d83_30 rfl ?_
  exact mm_ireturn d83_31 rfl
theorem b83_32 {l : Launch} {X : Nat × (Nat → Int32)} {d : Nat} {I : Nat → Nat → Int32} {J : Nat → Nat → Int64} {x1 : Int32} {x2 : Int32} {x3 : Int32} {mc ms : Nat} {o : mm_O} {σ' : mm_S} (i37 : vp_in x1 256) (kt : ¬ (I 15 x1.toNatClampNeg) = x2 → mm_Run l X 83 (d + 1) 46 [.ref 13, .int x1, .int x2, .int x3] [] (mm_Λ, I, J) mc ms o σ') (kf : ¬ (¬ (I 15 x1.toNatClampNeg) = x2) → mm_Run l X 83 (d + 1) 42 [.ref 13, .int x1, .int x2, .int x3] [] (mm_Λ, I, J) mc ms o σ') : mm_Run l X 83 (d + 1) 32 [.ref 13, .int x1, .int x2, .int x3] [] (mm_Λ, I, J) mc ms o σ' := by
  refine mm_aload_n (v := .ref 13) d83_32 rfl (Or.inl ⟨_, rfl⟩) ?_
  refine mm_getfield (v := .ref 15) d83_33 okc5 fk83_15 rfl rfl (by nofun) ?_
  refine mm_iload_n d83_36 rfl ?_
  refine mm_iaload d83_37 rfl i37 ?_
  refine mm_iload_n d83_38 rfl ?_
  refine mm_icmp (tgt := 46) d83_39 (by decide) (fun h => ?_) (fun h => ?_)
  · exact kt h
  · exact kf h
theorem b83_42 {l : Launch} {X : Nat × (Nat → Int32)} {d : Nat} {I : Nat → Nat → Int32} {J : Nat → Nat → Int64} {x1 : Int32} {x2 : Int32} {x3 : Int32} {mc ms : Nat} {o : mm_O} {σ' : mm_S} (hr : mm_Run l X 83 (d + 1) 48 [.ref 13, .int x1, .int x2, .int x3] [.int (-1)] (mm_Λ, I, J) mc ms o σ') : mm_Run l X 83 (d + 1) 42 [.ref 13, .int x1, .int x2, .int x3] [] (mm_Λ, I, J) mc ms o σ' := by
  refine mm_ic d83_42 cim1 ?_
  refine mm_goto (tgt := 48) d83_43 (by decide) ?_
  exact hr
theorem b83_46 {l : Launch} {X : Nat × (Nat → Int32)} {d : Nat} {I : Nat → Nat → Int32} {J : Nat → Nat → Int64} {x1 : Int32} {x2 : Int32} {x3 : Int32} {mc ms : Nat} {o : mm_O} {σ' : mm_S} (hr : mm_Run l X 83 (d + 1) 48 [.ref 13, .int x1, .int x2, .int x3] [.int (-2)] (mm_Λ, I, J) mc ms o σ') : mm_Run l X 83 (d + 1) 46 [.ref 13, .int x1, .int x2, .int x3] [] (mm_Λ, I, J) mc ms o σ' := by
  refine mm_bi d83_46 cbm2 ?_
  exact hr
theorem b83_48 {l : Launch} {X : Nat × (Nat → Int32)} {d : Nat} {I : Nat → Nat → Int32} {J : Nat → Nat → Int64} {x1 : Int32} {x2 : Int32} {x3 : Int32} {s0 : Int32} {mc ms : Nat}  : mm_Run l X 83 (d + 1) 48 [.ref 13, .int x1, .int x2, .int x3] [.int s0] (mm_Λ, I, J) mc ms (.inl (some (.int s0))) (mm_Λ, I, J) := by
  exact mm_ireturn d83_48 rfl
theorem b84_0 {l : Launch} {X : Nat × (Nat → Int32)} {d : Nat} {I : Nat → Nat → Int32} {J : Nat → Nat → Int64} {x1 : Int32} {mc ms : Nat} {o : mm_O} {σ' : mm_S} {r : Int32} {I1 : Nat → Nat → Int32} {J1 : Nat → Nat → Int64} (hcall : mm_Call l X 85 d [.int x1] (mm_Λ, I, J) 0 0 (.inl (some (.int r))) (mm_Λ, I1, J1)) (hr : mm_Run l X 84 (d + 1) 4 [.ref 13, .int x1, .null, .null, .null] [.int r] (mm_Λ, I1, J1) mc ms o σ') : mm_Run l X 84 (d + 1) 0 [.ref 13, .int x1, .null, .null, .null] [] (mm_Λ, I, J) mc ms o σ' := by
  refine mm_iload_n d84_0 rfl ?_
  exact mm_callS0 (as := [.int x1]) (S := []) d84_1 okm85 ln84_72 st85 rfl rfl (Nat.le_of_ble_eq_true rfl) (Nat.le_of_ble_eq_true rfl) hcall hr
theorem b84_4 {l : Launch} {X : Nat × (Nat → Int32)} {d : Nat} {I : Nat → Nat → Int32} {J : Nat → Nat → Int64} {x1 : Int32} {s0 : Int32} {mc ms : Nat} {o : mm_O} {σ' : mm_S} (hr : mm_Run l X 84 (d + 1) 5 [.ref 13, .int x1, .int s0, .null, .null] [] (mm_Λ, I, J) mc ms o σ') : mm_Run l X 84 (d + 1) 4 [.ref 13, .int x1, .null, .null, .null] [.int s0] (mm_Λ, I, J) mc ms o σ' := by
  refine mm_istore_n d84_4 (by decide +kernel) ?_
  exact hr
theorem b84_5 {l : Launch} {X : Nat × (Nat → Int32)} {d : Nat} {I : Nat → Nat → Int32} {J : Nat → Nat → Int64} {x1 : Int32} {x2 : Int32} {mc ms : Nat} {o : mm_O} {σ' : mm_S} (kt : x2 ≤ 0 → mm_Run l X 84 (d + 1) 58 [.ref 13, .int x1, .int x2, .null, .null] [] (mm_Λ, I, J) mc ms o σ') (kf : ¬ (x2 ≤ 0) → mm_Run l X 84 (d + 1) 9 [.ref 13, .int x1, .int x2, .null, .null] [] (mm_Λ, I, J) mc ms o σ') : mm_Run l X 84 (d + 1) 5 [.ref 13, .int x1, .int x2, .null, .null] [] (mm_Λ, I, J) mc ms o σ' := by
  refine mm_iload_n d84_5 rfl ?_
  refine mm_if (tgt := 58) d84_6 (by decide) (fun h => ?_) (fun h => ?_)
  · exact kt h
  · exact kf h
theorem b84_9 {l : Launch} {X : Nat × (Nat → Int32)} {d : Nat} {I : Nat → Nat → Int32} {J : Nat → Nat → Int64} {x1 : Int32} {x2 : Int32} {mc ms : Nat} {o : mm_O} {σ' : mm_S} (i29 : vp_in (x1 >>> ((2 * x2) &&& 31)) 256) (kt : ¬ (I 15 (x1 >>> ((2 * x2) &&& 31)).toNatClampNeg) = (-2) → mm_Run l X 84 (d + 1) 37 [.ref 13, .int x1, .int x2, .int (x1 >>> ((2 * x2) &&& 31)), .int (x1 >>> ((2 * (x2 - 1)) &&& 31))] [] (mm_Λ, I, J) mc ms o σ') (kf : ¬ (¬ (I 15 (x1 >>> ((2 * x2) &&& 31)).toNatClampNeg) = (-2)) → mm_Run l X 84 (d + 1) 35 [.ref 13, .int x1, .int x2, .int (x1 >>> ((2 * x2) &&& 31)), .int (x1 >>> ((2 * (x2 - 1)) &&& 31))] [] (mm_Λ, I, J) mc ms o σ') : mm_Run l X 84 (d + 1) 9 [.ref 13, .int x1, .int x2, .null, .null] [] (mm_Λ, I, J) mc ms o σ' := by
  refine mm_iload_n d84_9 rfl ?_
  refine mm_ic d84_10 ci2 ?_
  refine mm_iload_n d84_11 rfl ?_
  refine mm_imul d84_12 ?_
  refine mm_ishr d84_13 ?_
  refine mm_istore_n d84_14 (by decide +kernel) ?_
  refine mm_iload_n d84_15 rfl ?_
  refine mm_ic d84_16 ci2 ?_
  refine mm_iload_n d84_17 rfl ?_
  refine mm_ic d84_18 ci1 ?_
  refine mm_isub d84_19 ?_
  refine mm_imul d84_20 ?_
  refine mm_ishr d84_21 ?_
  refine mm_istore d84_22 (by decide +kernel) ?_
  refine mm_aload_n (v := .ref 13) d84_24 rfl (Or.inl ⟨_, rfl⟩) ?_
  refine mm_getfield (v := .ref 15) d84_25 okc5 fk84_15 rfl rfl (by nofun) ?_
  refine mm_iload_n d84_28 rfl ?_
  refine mm_iaload d84_29 rfl i29 ?_
  refine mm_bi d84_30 cbm2 ?_
  refine mm_icmp (tgt := 37) d84_32 (by decide) (fun h => ?_) (fun h => ?_)
  · exact kt h
  · exact kf h
theorem b84_35 {l : Launch} {X : Nat × (Nat → Int32)} {d : Nat} {I : Nat → Nat → Int32} {J : Nat → Nat → Int64} {x1 : Int32} {x2 : Int32} {x3 : Int32} {x4 : Int32} {mc ms : Nat}  : mm_Run l X 84 (d + 1) 35 [.ref 13, .int x1, .int x2, .int x3, .int x4] [] (mm_Λ, I, J) mc ms (.inl (some (.int x3))) (mm_Λ, I, J) := by
  refine mm_iload_n d84_35 rfl ?_
  exact mm_ireturn d84_36 rfl
theorem b84_37 {l : Launch} {X : Nat × (Nat → Int32)} {d : Nat} {I : Nat → Nat → Int32} {J : Nat → Nat → Int64} {x1 : Int32} {x2 : Int32} {x3 : Int32} {x4 : Int32} {mc ms : Nat} {o : mm_O} {σ' : mm_S} (i46 : vp_in x3 256) (kt : (x4 &&& 3) ≤ (I 16 x3.toNatClampNeg) → mm_Run l X 84 (d + 1) 52 [.ref 13, .int x1, .int x2, .int x3, .int x4] [] (mm_Λ, I, J) mc ms o σ') (kf : ¬ ((x4 &&& 3) ≤ (I 16 x3.toNatClampNeg)) → mm_Run l X 84 (d + 1) 50 [.ref 13, .int x1, .int x2, .int x3, .int x4] [] (mm_Λ, I, J) mc ms o σ') : mm_Run l X 84 (d + 1) 37 [.ref 13, .int x1, .int x2, .int x3, .int x4] [] (mm_Λ, I, J) mc ms o σ' := by
  refine mm_iload d84_37 rfl ?_
  refine mm_ic d84_39 ci3 ?_
  refine mm_iand d84_40 ?_
  refine mm_aload_n (v := .ref 13) d84_41 rfl (Or.inl ⟨_, rfl⟩) ?_
  refine mm_getfield (v := .ref 16) d84_42 okc5 fk84_18 rfl rfl (by nofun) ?_
  refine mm_iload_n d84_45 rfl ?_
  refine mm_iaload d84_46 rfl i46 ?_
  refine mm_icmp (tgt := 52) d84_47 (by decide) (fun h => ?_) (fun h => ?_)
  · exact kt h
  · exact kf h
theorem b84_50 {l : Launch} {X : Nat × (Nat → Int32)} {d : Nat} {I : Nat → Nat → Int32} {J : Nat → Nat → Int64} {x1 : Int32} {x2 : Int32} {x3 : Int32} {x4 : Int32} {mc ms : Nat}  : mm_Run l X 84 (d + 1) 50 [.ref 13, .int x1, .int x2, .int x3, .int x4] [] (mm_Λ, I, J) mc ms (.inl (some (.int (-1)))) (mm_Λ, I, J) := by
  refine mm_ic d84_50 cim1 ?_
  exact mm_ireturn d84_51 rfl
theorem b84_52 {l : Launch} {X : Nat × (Nat → Int32)} {d : Nat} {I : Nat → Nat → Int32} {J : Nat → Nat → Int64} {x1 : Int32} {x2 : Int32} {x3 : Int32} {x4 : Int32} {mc ms : Nat} {o : mm_O} {σ' : mm_S} (hr : mm_Run l X 84 (d + 1) 5 [.ref 13, .int x1, .int (x2 + (-1)), .null, .null] [] (mm_Λ, I, J) mc ms o σ') : mm_Run l X 84 (d + 1) 52 [.ref 13, .int x1, .int x2, .int x3, .int x4] [] (mm_Λ, I, J) mc ms o σ' := by
  refine mm_ii d84_52 cim1 rfl (by decide +kernel) ?_
  refine mm_goto (tgt := 5) d84_55 (by decide) ?_
  exact mm_forget hr (by exact ⟨rfl, rfl, rfl, trivial⟩)
theorem b84_58 {l : Launch} {X : Nat × (Nat → Int32)} {d : Nat} {I : Nat → Nat → Int32} {J : Nat → Nat → Int64} {x1 : Int32} {x2 : Int32} {mc ms : Nat}  : mm_Run l X 84 (d + 1) 58 [.ref 13, .int x1, .int x2, .null, .null] [] (mm_Λ, I, J) mc ms (.inl (some (.int x1))) (mm_Λ, I, J) := by
  refine mm_iload_n d84_58 rfl ?_
  exact mm_ireturn d84_59 rfl
theorem b85_0 {l : Launch} {X : Nat × (Nat → Int32)} {d : Nat} {I : Nat → Nat → Int32} {J : Nat → Nat → Int64} {x0 : Int32} {mc ms : Nat} {o : mm_O} {σ' : mm_S} (hr : mm_Run l X 85 d 4 [.int x0, .int 0, .int x0] [] (mm_Λ, I, J) mc ms o σ') : mm_Run l X 85 d 0 [.int x0, .null, .null] [] (mm_Λ, I, J) mc ms o σ' := by
  refine mm_ic d85_0 ci0 ?_
  refine mm_istore_n d85_1 (by decide +kernel) ?_
  refine mm_iload_n d85_2 rfl ?_
  refine mm_istore_n d85_3 (by decide +kernel) ?_
  exact hr
theorem b85_4 {l : Launch} {X : Nat × (Nat → Int32)} {d : Nat} {I : Nat → Nat → Int32} {J : Nat → Nat → Int64} {x0 : Int32} {x1 : Int32} {x2 : Int32} {mc ms : Nat} {o : mm_O} {σ' : mm_S} (kt : x2 ≤ 0 → mm_Run l X 85 d 18 [.int x0, .int x1, .int x2] [] (mm_Λ, I, J) mc ms o σ') (kf : ¬ (x2 ≤ 0) → mm_Run l X 85 d 8 [.int x0, .int x1, .int x2] [] (mm_Λ, I, J) mc ms o σ') : mm_Run l X 85 d 4 [.int x0, .int x1, .int x2] [] (mm_Λ, I, J) mc ms o σ' := by
  refine mm_iload_n d85_4 rfl ?_
  refine mm_if (tgt := 18) d85_5 (by decide) (fun h => ?_) (fun h => ?_)
  · exact kt h
  · exact kf h
theorem b85_8 {l : Launch} {X : Nat × (Nat → Int32)} {d : Nat} {I : Nat → Nat → Int32} {J : Nat → Nat → Int64} {x0 : Int32} {x1 : Int32} {x2 : Int32} {mc ms : Nat} {o : mm_O} {σ' : mm_S} (hr : mm_Run l X 85 d 4 [.int x0, .int (x1 + 1), .int (x2 >>> (2 &&& 31))] [] (mm_Λ, I, J) mc ms o σ') : mm_Run l X 85 d 8 [.int x0, .int x1, .int x2] [] (mm_Λ, I, J) mc ms o σ' := by
  refine mm_ii d85_8 ci1 rfl (by decide +kernel) ?_
  refine mm_iload_n d85_11 rfl ?_
  refine mm_ic d85_12 ci2 ?_
  refine mm_ishr d85_13 ?_
  refine mm_istore_n d85_14 (by decide +kernel) ?_
  refine mm_goto (tgt := 4) d85_15 (by decide) ?_
  exact hr
theorem b85_18 {l : Launch} {X : Nat × (Nat → Int32)} {d : Nat} {I : Nat → Nat → Int32} {J : Nat → Nat → Int64} {x0 : Int32} {x1 : Int32} {x2 : Int32} {mc ms : Nat}  : mm_Run l X 85 d 18 [.int x0, .int x1, .int x2] [] (mm_Λ, I, J) mc ms (.inl (some (.int x1))) (mm_Λ, I, J) := by
  refine mm_iload_n d85_18 rfl ?_
  exact mm_ireturn d85_19 rfl
theorem b86_0 {l : Launch} {X : Nat × (Nat → Int32)} {d : Nat} {I : Nat → Nat → Int32} {J : Nat → Nat → Int64} {x1 : Int32} {x2 : Int32} {mc ms : Nat} {o : mm_O} {σ' : mm_S} {r : Int32} {I1 : Nat → Nat → Int32} {J1 : Nat → Nat → Int64} (hcall : mm_Call l X 84 d [.ref 13, .int x1] (mm_Λ, I, J) 0 0 (.inl (some (.int r))) (mm_Λ, I1, J1)) (hr : mm_Run l X 86 (d + 1) 5 [.ref 13, .int x1, .int x2, .null, .null] [.int r] (mm_Λ, I1, J1) mc ms o σ') : mm_Run l X 86 (d + 1) 0 [.ref 13, .int x1, .int x2, .null, .null] [] (mm_Λ, I, J) mc ms o σ' := by
  refine mm_aload_n (v := .ref 13) d86_0 rfl (Or.inl ⟨_, rfl⟩) ?_
  refine mm_iload_n d86_1 rfl ?_
  exact mm_callV0 (as := [.int x1]) (S := []) d86_2 okm84 ln86_97 im84 se84 rfl ⟨_, _, rfl⟩ rfl rfl (Nat.le_of_ble_eq_true rfl) (Nat.le_of_ble_eq_true rfl) hcall hr
theorem b86_5 {l : Launch} {X : Nat × (Nat → Int32)} {d : Nat} {I : Nat → Nat → Int32} {J : Nat → Nat → Int64} {x1 : Int32} {x2 : Int32} {s0 : Int32} {mc ms : Nat} {o : mm_O} {σ' : mm_S} (kt : s0 = x1 → mm_Run l X 86 (d + 1) 18 [.ref 13, .int x1, .int x2, .int s0, .null] [] (mm_Λ, I, J) mc ms o σ') (kf : ¬ (s0 = x1) → mm_Run l X 86 (d + 1) 11 [.ref 13, .int x1, .int x2, .int s0, .null] [] (mm_Λ, I, J) mc ms o σ') : mm_Run l X 86 (d + 1) 5 [.ref 13, .int x1, .int x2, .null, .null] [.int s0] (mm_Λ, I, J) mc ms o σ' := by
  refine mm_istore_n d86_5 (by decide +kernel) ?_
  refine mm_iload_n d86_6 rfl ?_
  refine mm_iload_n d86_7 rfl ?_
  refine mm_icmp (tgt := 18) d86_8 (by decide) (fun h => ?_) (fun h => ?_)
  · exact kt h
  · exact kf h
theorem b86_11 {l : Launch} {X : Nat × (Nat → Int32)} {d : Nat} {I : Nat → Nat → Int32} {J : Nat → Nat → Int64} {x1 : Int32} {x2 : Int32} {x3 : Int32} {mc ms : Nat} {o : mm_O} {σ' : mm_S} (kt : x3 = (-1) → mm_Run l X 86 (d + 1) 18 [.ref 13, .int x1, .int x2, .int x3, .null] [] (mm_Λ, I, J) mc ms o σ') (kf : ¬ (x3 = (-1)) → mm_Run l X 86 (d + 1) 16 [.ref 13, .int x1, .int x2, .int x3, .null] [] (mm_Λ, I, J) mc ms o σ') : mm_Run l X 86 (d + 1) 11 [.ref 13, .int x1, .int x2, .int x3, .null] [] (mm_Λ, I, J) mc ms o σ' := by
  refine mm_iload_n d86_11 rfl ?_
  refine mm_ic d86_12 cim1 ?_
  refine mm_icmp (tgt := 18) d86_13 (by decide) (fun h => ?_) (fun h => ?_)
  · exact kt h
  · exact kf h
theorem b86_16 {l : Launch} {X : Nat × (Nat → Int32)} {d : Nat} {I : Nat → Nat → Int32} {J : Nat → Nat → Int64} {x1 : Int32} {x2 : Int32} {x3 : Int32} {mc ms : Nat}  : mm_Run l X 86 (d + 1) 16 [.ref 13, .int x1, .int x2, .int x3, .null] [] (mm_Λ, I, J) mc ms (.inl (some (.int x3))) (mm_Λ, I, J) := by
  refine mm_iload_n d86_16 rfl ?_
  exact mm_ireturn d86_17 rfl
theorem b86_18 {l : Launch} {X : Nat × (Nat → Int32)} {d : Nat} {I : Nat → Nat → Int32} {J : Nat → Nat → Int64} {x1 : Int32} {x2 : Int32} {x3 : Int32} {mc ms : Nat} {o : mm_O} {σ' : mm_S} {r : Int32} {I1 : Nat → Nat → Int32} {J1 : Nat → Nat → Int64} (hcall : mm_Call l X 84 d [.ref 13, .int x2] (mm_Λ, I, J) 0 0 (.inl (some (.int r))) (mm_Λ, I1, J1)) (hr : mm_Run l X 86 (d + 1) 23 [.ref 13, .int x1, .int x2, .int x3, .null] [.int r] (mm_Λ, I1, J1) mc ms o σ') : mm_Run l X 86 (d + 1) 18 [.ref 13, .int x1, .int x2, .int x3, .null] [] (mm_Λ, I, J) mc ms o σ' := by
  refine mm_aload_n (v := .ref 13) d86_18 rfl (Or.inl ⟨_, rfl⟩) ?_
  refine mm_iload_n d86_19 rfl ?_
  exact mm_callV0 (as := [.int x2]) (S := []) d86_20 okm84 ln86_97 im84 se84 rfl ⟨_, _, rfl⟩ rfl rfl (Nat.le_of_ble_eq_true rfl) (Nat.le_of_ble_eq_true rfl) hcall hr
theorem b86_23 {l : Launch} {X : Nat × (Nat → Int32)} {d : Nat} {I : Nat → Nat → Int32} {J : Nat → Nat → Int64} {x1 : Int32} {x2 : Int32} {x3 : Int32} {s0 : Int32} {mc ms : Nat} {o : mm_O} {σ' : mm_S} (kt : s0 = x2 → mm_Run l X 86 (d + 1) 40 [.ref 13, .int x1, .int x2, .int x3, .int s0] [] (mm_Λ, I, J) mc ms o σ') (kf : ¬ (s0 = x2) → mm_Run l X 86 (d + 1) 31 [.ref 13, .int x1, .int x2, .int x3, .int s0] [] (mm_Λ, I, J) mc ms o σ') : mm_Run l X 86 (d + 1) 23 [.ref 13, .int x1, .int x2, .int x3, .null] [.int s0] (mm_Λ, I, J) mc ms o σ' := by
  refine mm_istore d86_23 (by decide +kernel) ?_
  refine mm_iload d86_25 rfl ?_
  refine mm_iload_n d86_27 rfl ?_
  refine mm_icmp (tgt := 40) d86_28 (by decide) (fun h => ?_) (fun h => ?_)
  · exact kt h
  · exact kf h
theorem b86_31 {l : Launch} {X : Nat × (Nat → Int32)} {d : Nat} {I : Nat → Nat → Int32} {J : Nat → Nat → Int64} {x1 : Int32} {x2 : Int32} {x3 : Int32} {x4 : Int32} {mc ms : Nat} {o : mm_O} {σ' : mm_S} (kt : x4 = (-1) → mm_Run l X 86 (d + 1) 40 [.ref 13, .int x1, .int x2, .int x3, .int x4] [] (mm_Λ, I, J) mc ms o σ') (kf : ¬ (x4 = (-1)) → mm_Run l X 86 (d + 1) 37 [.ref 13, .int x1, .int x2, .int x3, .int x4] [] (mm_Λ, I, J) mc ms o σ') : mm_Run l X 86 (d + 1) 31 [.ref 13, .int x1, .int x2, .int x3, .int x4] [] (mm_Λ, I, J) mc ms o σ' := by
  refine mm_iload d86_31 rfl ?_
  refine mm_ic d86_33 cim1 ?_
  refine mm_icmp (tgt := 40) d86_34 (by decide) (fun h => ?_) (fun h => ?_)
  · exact kt h
  · exact kf h
theorem b86_37 {l : Launch} {X : Nat × (Nat → Int32)} {d : Nat} {I : Nat → Nat → Int32} {J : Nat → Nat → Int64} {x1 : Int32} {x2 : Int32} {x3 : Int32} {x4 : Int32} {mc ms : Nat}  : mm_Run l X 86 (d + 1) 37 [.ref 13, .int x1, .int x2, .int x3, .int x4] [] (mm_Λ, I, J) mc ms (.inl (some (.int x4))) (mm_Λ, I, J) := by
  refine mm_iload d86_37 rfl ?_
  exact mm_ireturn d86_39 rfl
theorem b86_40 {l : Launch} {X : Nat × (Nat → Int32)} {d : Nat} {I : Nat → Nat → Int32} {J : Nat → Nat → Int64} {x1 : Int32} {x2 : Int32} {x3 : Int32} {x4 : Int32} {mc ms : Nat} {o : mm_O} {σ' : mm_S} (kt : x3 = (-1) → mm_Run l X 86 (d + 1) 51 [.ref 13, .int x1, .int x2, .int x3, .int x4] [] (mm_Λ, I, J) mc ms o σ') (kf : ¬ (x3 = (-1)) → mm_Run l X 86 (d + 1) 45 [.ref 13, .int x1, .int x2, .int x3, .int x4] [] (mm_Λ, I, J) mc ms o σ') : mm_Run l X 86 (d + 1) 40 [.ref 13, .int x1, .int x2, .int x3, .int x4] [] (mm_Λ, I, J) mc ms o σ' := by
  refine mm_iload_n d86_40 rfl ?_
  refine mm_ic d86_41 cim1 ?_
  refine mm_icmp (tgt := 51) d86_42 (by decide) (fun h => ?_) (fun h => ?_)
  · exact kt h
  · exact kf h
theorem b86_45 {l : Launch} {X : Nat × (Nat → Int32)} {d : Nat} {I : Nat → Nat → Int32} {J : Nat → Nat → Int64} {x1 : Int32} {x2 : Int32} {x3 : Int32} {x4 : Int32} {mc ms : Nat} {o : mm_O} {σ' : mm_S} (kt : ¬ x4 = (-1) → mm_Run l X 86 (d + 1) 64 [.ref 13, .int x1, .int x2, .int x3, .int x4] [] (mm_Λ, I, J) mc ms o σ') (kf : ¬ (¬ x4 = (-1)) → mm_Run l X 86 (d + 1) 51 [.ref 13, .int x1, .int x2, .int x3, .int x4] [] (mm_Λ, I, J) mc ms o σ') : mm_Run l X 86 (d + 1) 45 [.ref 13, .int x1, .int x2, .int x3, .int x4] [] (mm_Λ, I, J) mc ms o σ' := by
  refine mm_iload d86_45 rfl ?_
  refine mm_ic d86_47 cim1 ?_
  refine mm_icmp (tgt := 64) d86_48 (by decide) (fun h => ?_) (fun h => ?_)
  · exact kt h
  · exact kf h
theorem b86_51 {l : Launch} {X : Nat × (Nat → Int32)} {d : Nat} {I : Nat → Nat → Int32} {J : Nat → Nat → Int64} {x1 : Int32} {x2 : Int32} {x3 : Int32} {x4 : Int32} {mc ms : Nat} {o : mm_O} {σ' : mm_S} (kt : ¬ x3 = x4 → mm_Run l X 86 (d + 1) 61 [.ref 13, .int x1, .int x2, .int x3, .int x4] [] (mm_Λ, I, J) mc ms o σ') (kf : ¬ (¬ x3 = x4) → mm_Run l X 86 (d + 1) 57 [.ref 13, .int x1, .int x2, .int x3, .int x4] [] (mm_Λ, I, J) mc ms o σ') : mm_Run l X 86 (d + 1) 51 [.ref 13, .int x1, .int x2, .int x3, .int x4] [] (mm_Λ, I, J) mc ms o σ' := by
  refine mm_iload_n d86_51 rfl ?_
  refine mm_iload d86_52 rfl ?_
  refine mm_icmp (tgt := 61) d86_54 (by decide) (fun h => ?_) (fun h => ?_)
  · exact kt h
  · exact kf h
theorem b86_57 {l : Launch} {X : Nat × (Nat → Int32)} {d : Nat} {I : Nat → Nat → Int32} {J : Nat → Nat → Int64} {x1 : Int32} {x2 : Int32} {x3 : Int32} {x4 : Int32} {mc ms : Nat} {o : mm_O} {σ' : mm_S} (hr : mm_Run l X 86 (d + 1) 63 [.ref 13, .int x1, .int x2, .int x3, .int x4] [.int (-1)] (mm_Λ, I, J) mc ms o σ') : mm_Run l X 86 (d + 1) 57 [.ref 13, .int x1, .int x2, .int x3, .int x4] [] (mm_Λ, I, J) mc ms o σ' := by
  refine mm_ic d86_57 cim1 ?_
  refine mm_goto (tgt := 63) d86_58 (by decide) ?_
  exact hr
theorem b86_61 {l : Launch} {X : Nat × (Nat → Int32)} {d : Nat} {I : Nat → Nat → Int32} {J : Nat → Nat → Int64} {x1 : Int32} {x2 : Int32} {x3 : Int32} {x4 : Int32} {mc ms : Nat} {o : mm_O} {σ' : mm_S} (hr : mm_Run l X 86 (d + 1) 63 [.ref 13, .int x1, .int x2, .int x3, .int x4] [.int (-2)] (mm_Λ, I, J) mc ms o σ') : mm_Run l X 86 (d + 1) 61 [.ref 13, .int x1, .int x2, .int x3, .int x4] [] (mm_Λ, I, J) mc ms o σ' := by
  refine mm_bi d86_61 cbm2 ?_
  exact hr
theorem b86_63 {l : Launch} {X : Nat × (Nat → Int32)} {d : Nat} {I : Nat → Nat → Int32} {J : Nat → Nat → Int64} {x1 : Int32} {x2 : Int32} {x3 : Int32} {x4 : Int32} {s0 : Int32} {mc ms : Nat}  : mm_Run l X 86 (d + 1) 63 [.ref 13, .int x1, .int x2, .int x3, .int x4] [.int s0] (mm_Λ, I, J) mc ms (.inl (some (.int s0))) (mm_Λ, I, J) := by
  exact mm_ireturn d86_63 rfl
theorem b86_64 {l : Launch} {X : Nat × (Nat → Int32)} {d : Nat} {I : Nat → Nat → Int32} {J : Nat → Nat → Int64} {x1 : Int32} {x2 : Int32} {x3 : Int32} {x4 : Int32} {mc ms : Nat} {o : mm_O} {σ' : mm_S} {r : Int32} {I1 : Nat → Nat → Int32} {J1 : Nat → Nat → Int64} (hcall : mm_Call l X 87 d [.ref 13, .int x1, .int x2, .int 0] (mm_Λ, I, J) 0 0 (.inl (some (.int r))) (mm_Λ, I1, J1)) (hr : mm_Run l X 86 (d + 1) 71 [.ref 13, .int x1, .int x2, .int x3, .int x4] [.int r] (mm_Λ, I1, J1) mc ms o σ') : mm_Run l X 86 (d + 1) 64 [.ref 13, .int x1, .int x2, .int x3, .int x4] [] (mm_Λ, I, J) mc ms o σ' := by
  refine mm_aload_n (v := .ref 13) d86_64 rfl (Or.inl ⟨_, rfl⟩) ?_
  refine mm_iload_n d86_65 rfl ?_
  refine mm_iload_n d86_66 rfl ?_
  refine mm_ic d86_67 ci0 ?_
  exact mm_callV0 (as := [.int x1, .int x2, .int 0]) (S := []) d86_68 okm87 ln86_100 im87 se87 rfl ⟨_, _, rfl⟩ rfl rfl (Nat.le_of_ble_eq_true rfl) (Nat.le_of_ble_eq_true rfl) hcall hr
theorem b86_71 {l : Launch} {X : Nat × (Nat → Int32)} {d : Nat} {I : Nat → Nat → Int32} {J : Nat → Nat → Int64} {x1 : Int32} {x2 : Int32} {x3 : Int32} {x4 : Int32} {s0 : Int32} {mc ms : Nat}  : mm_Run l X 86 (d + 1) 71 [.ref 13, .int x1, .int x2, .int x3, .int x4] [.int s0] (mm_Λ, I, J) mc ms (.inl (some (.int s0))) (mm_Λ, I, J) := by
  exact mm_ireturn d86_71 rfl
theorem b87_0 {l : Launch} {X : Nat × (Nat → Int32)} {d : Nat} {I : Nat → Nat → Int32} {J : Nat → Nat → Int64} {x1 : Int32} {x2 : Int32} {x3 : Int32} {mc ms : Nat} {o : mm_O} {σ' : mm_S} (i5 : vp_in x1 256) (kt : ¬ (I 15 x1.toNatClampNeg) = (-2) → mm_Run l X 87 (d + 1) 13 [.ref 13, .int x1, .int x2, .int x3, .null, .null] [] (mm_Λ, I, J) mc ms o σ') (kf : ¬ (¬ (I 15 x1.toNatClampNeg) = (-2)) → mm_Run l X 87 (d + 1) 11 [.ref 13, .int x1, .int x2, .int x3, .null, .null] [] (mm_Λ, I, J) mc ms o σ') : mm_Run l X 87 (d + 1) 0 [.ref 13, .int x1, .int x2, .int x3, .null, .null] [] (mm_Λ, I, J) mc ms o σ' := by
  refine mm_aload_n (v := .ref 13) d87_0 rfl (Or.inl ⟨_, rfl⟩) ?_
  refine mm_getfield (v := .ref 15) d87_1 okc5 fk87_15 rfl rfl (by nofun) ?_
  refine mm_iload_n d87_4 rfl ?_
  refine mm_iaload d87_5 rfl i5 ?_
  refine mm_bi d87_6 cbm2 ?_
  refine mm_icmp (tgt := 13) d87_8 (by decide) (fun h => ?_) (fun h => ?_)
  · exact kt h
  · exact kf h
theorem b87_11 {l : Launch} {X : Nat × (Nat → Int32)} {d : Nat} {I : Nat → Nat → Int32} {J : Nat → Nat → Int64} {x1 : Int32} {x2 : Int32} {x3 : Int32} {mc ms : Nat}  : mm_Run l X 87 (d + 1) 11 [.ref 13, .int x1, .int x2, .int x3, .null, .null] [] (mm_Λ, I, J) mc ms (.inl (some (.int x1))) (mm_Λ, I, J) := by
  refine mm_iload_n d87_11 rfl ?_
  exact mm_ireturn d87_12 rfl
theorem b87_13 {l : Launch} {X : Nat × (Nat → Int32)} {d : Nat} {I : Nat → Nat → Int32} {J : Nat → Nat → Int64} {x1 : Int32} {x2 : Int32} {x3 : Int32} {mc ms : Nat} {o : mm_O} {σ' : mm_S} (i18 : vp_in x2 256) (kt : ¬ (I 15 x2.toNatClampNeg) = (-2) → mm_Run l X 87 (d + 1) 26 [.ref 13, .int x1, .int x2, .int x3, .null, .null] [] (mm_Λ, I, J) mc ms o σ') (kf : ¬ (¬ (I 15 x2.toNatClampNeg) = (-2)) → mm_Run l X 87 (d + 1) 24 [.ref 13, .int x1, .int x2, .int x3, .null, .null] [] (mm_Λ, I, J) mc ms o σ') : mm_Run l X 87 (d + 1) 13 [.ref 13, .int x1, .int x2, .int x3, .null, .null] [] (mm_Λ, I, J) mc ms o σ' := by
  refine mm_aload_n (v := .ref 13) d87_13 rfl (Or.inl ⟨_, rfl⟩) ?_
  refine mm_getfield (v := .ref 15) d87_14 okc5 fk87_15 rfl rfl (by nofun) ?_
  refine mm_iload_n d87_17 rfl ?_
  refine mm_iaload d87_18 rfl i18 ?_
  refine mm_bi d87_19 cbm2 ?_
  refine mm_icmp (tgt := 26) d87_21 (by decide) (fun h => ?_) (fun h => ?_)
  · exact kt h
  · exact kf h
theorem b87_24 {l : Launch} {X : Nat × (Nat → Int32)} {d : Nat} {I : Nat → Nat → Int32} {J : Nat → Nat → Int64} {x1 : Int32} {x2 : Int32} {x3 : Int32} {mc ms : Nat}  : mm_Run l X 87 (d + 1) 24 [.ref 13, .int x1, .int x2, .int x3, .null, .null] [] (mm_Λ, I, J) mc ms (.inl (some (.int x2))) (mm_Λ, I, J) := by
  refine mm_iload_n d87_24 rfl ?_
  exact mm_ireturn d87_25 rfl
theorem b87_26 {l : Launch} {X : Nat × (Nat → Int32)} {d : Nat} {I : Nat → Nat → Int32} {J : Nat → Nat → Int64} {x1 : Int32} {x2 : Int32} {x3 : Int32} {mc ms : Nat} {o : mm_O} {σ' : mm_S} (i31 : vp_in x1 256) (i37 : vp_in x2 256) (kt : ¬ (I 15 x1.toNatClampNeg) = (I 15 x2.toNatClampNeg) → mm_Run l X 87 (d + 1) 56 [.ref 13, .int x1, .int x2, .int x3, .null, .null] [] (mm_Λ, I, J) mc ms o σ') (kf : ¬ (¬ (I 15 x1.toNatClampNeg) = (I 15 x2.toNatClampNeg)) → mm_Run l X 87 (d + 1) 41 [.ref 13, .int x1, .int x2, .int x3, .null, .null] [] (mm_Λ, I, J) mc ms o σ') : mm_Run l X 87 (d + 1) 26 [.ref 13, .int x1, .int x2, .int x3, .null, .null] [] (mm_Λ, I, J) mc ms o σ' := by
  refine mm_aload_n (v := .ref 13) d87_26 rfl (Or.inl ⟨_, rfl⟩) ?_
  refine mm_getfield (v := .ref 15) d87_27 okc5 fk87_15 rfl rfl (by nofun) ?_
  refine mm_iload_n d87_30 rfl ?_
  refine mm_iaload d87_31 rfl i31 ?_
  refine mm_aload_n (v := .ref 13) d87_32 rfl (Or.inl ⟨_, rfl⟩) ?_
  refine mm_getfield (v := .ref 15) d87_33 okc5 fk87_15 rfl rfl (by nofun) ?_
  refine mm_iload_n d87_36 rfl ?_
  refine mm_iaload d87_37 rfl i37 ?_
  refine mm_icmp (tgt := 56) d87_38 (by decide) (fun h => ?_) (fun h => ?_)
  · exact kt h
  · exact kf h
theorem b87_41 {l : Launch} {X : Nat × (Nat → Int32)} {d : Nat} {I : Nat → Nat → Int32} {J : Nat → Nat → Int64} {x1 : Int32} {x2 : Int32} {x3 : Int32} {mc ms : Nat} {o : mm_O} {σ' : mm_S} (i46 : vp_in x1 256) (i52 : vp_in x2 256) (kt : (I 16 x1.toNatClampNeg) = (I 16 x2.toNatClampNeg) → mm_Run l X 87 (d + 1) 59 [.ref 13, .int x1, .int x2, .int x3, .null, .null] [] (mm_Λ, I, J) mc ms o σ') (kf : ¬ ((I 16 x1.toNatClampNeg) = (I 16 x2.toNatClampNeg)) → mm_Run l X 87 (d + 1) 56 [.ref 13, .int x1, .int x2, .int x3, .null, .null] [] (mm_Λ, I, J) mc ms o σ') : mm_Run l X 87 (d + 1) 41 [.ref 13, .int x1, .int x2, .int x3, .null, .null] [] (mm_Λ, I, J) mc ms o σ' := by
  refine mm_aload_n (v := .ref 13) d87_41 rfl (Or.inl ⟨_, rfl⟩) ?_
  refine mm_getfield (v := .ref 16) d87_42 okc5 fk87_18 rfl rfl (by nofun) ?_
  refine mm_iload_n d87_45 rfl ?_
  refine mm_iaload d87_46 rfl i46 ?_
  refine mm_aload_n (v := .ref 13) d87_47 rfl (Or.inl ⟨_, rfl⟩) ?_
  refine mm_getfield (v := .ref 16) d87_48 okc5 fk87_18 rfl rfl (by nofun) ?_
  refine mm_iload_n d87_51 rfl ?_
  refine mm_iaload d87_52 rfl i52 ?_
  refine mm_icmp (tgt := 59) d87_53 (by decide) (fun h => ?_) (fun h => ?_)
  · exact kt h
  · exact kf h
theorem b87_56 {l : Launch} {X : Nat × (Nat → Int32)} {d : Nat} {I : Nat → Nat → Int32} {J : Nat → Nat → Int64} {x1 : Int32} {x2 : Int32} {x3 : Int32} {mc ms : Nat}  : mm_Run l X 87 (d + 1) 56 [.ref 13, .int x1, .int x2, .int x3, .null, .null] [] (mm_Λ, I, J) mc ms (.inl (some (.int (-2)))) (mm_Λ, I, J) := by
  refine mm_bi d87_56 cbm2 ?_
  exact mm_ireturn d87_58 rfl
theorem b87_59 {l : Launch} {X : Nat × (Nat → Int32)} {d : Nat} {I : Nat → Nat → Int32} {J : Nat → Nat → Int64} {x1 : Int32} {x2 : Int32} {x3 : Int32} {mc ms : Nat} {o : mm_O} {σ' : mm_S} (kt : 4 ≤ x3 → mm_Run l X 87 (d + 1) 114 [.ref 13, .int x1, .int x2, .int x3, .int (-1), .null] [] (mm_Λ, I, J) mc ms o σ') (kf : ¬ (4 ≤ x3) → mm_Run l X 87 (d + 1) 67 [.ref 13, .int x1, .int x2, .int x3, .int (-1), .null] [] (mm_Λ, I, J) mc ms o σ') : mm_Run l X 87 (d + 1) 59 [.ref 13, .int x1, .int x2, .int x3, .null, .null] [] (mm_Λ, I, J) mc ms o σ' := by
  refine mm_ic d87_59 cim1 ?_
  refine mm_istore d87_60 (by decide +kernel) ?_
  refine mm_iload_n d87_62 rfl ?_
  refine mm_ic d87_63 ci4 ?_
  refine mm_icmp (tgt := 114) d87_64 (by decide) (fun h => ?_) (fun h => ?_)
  · exact kt h
  · exact kf h
theorem b87_67 {l : Launch} {X : Nat × (Nat → Int32)} {d : Nat} {I : Nat → Nat → Int32} {J : Nat → Nat → Int64} {x1 : Int32} {x2 : Int32} {x3 : Int32} {x4 : Int32} {mc ms : Nat} {o : mm_O} {σ' : mm_S} (hr : mm_Run l X 87 (d + 1) 70 [.ref 13, .int x1, .int x2, .int x3, .int x4, .int 0] [] (mm_Λ, I, J) mc ms o σ') : mm_Run l X 87 (d + 1) 67 [.ref 13, .int x1, .int x2, .int x3, .int x4, .null] [] (mm_Λ, I, J) mc ms o σ' := by
  refine mm_ic d87_67 ci0 ?_
  refine mm_istore d87_68 (by decide +kernel) ?_
  exact hr
theorem b87_70 {l : Launch} {X : Nat × (Nat → Int32)} {d : Nat} {I : Nat → Nat → Int32} {J : Nat → Nat → Int64} {x1 : Int32} {x2 : Int32} {x3 : Int32} {x4 : Int32} {x5 : Int32} {mc ms : Nat} {o : mm_O} {σ' : mm_S} (i77 : vp_in x1 256) (kt : (I 16 x1.toNatClampNeg) ≤ x5 → mm_Run l X 87 (d + 1) 114 [.ref 13, .int x1, .int x2, .int x3, .int x4, .null] [] (mm_Λ, I, J) mc ms o σ') (kf : ¬ ((I 16 x1.toNatClampNeg) ≤ x5) → mm_Run l X 87 (d + 1) 81 [.ref 13, .int x1, .int x2, .int x3, .int x4, .int x5] [] (mm_Λ, I, J) mc ms o σ') : mm_Run l X 87 (d + 1) 70 [.ref 13, .int x1, .int x2, .int x3, .int x4, .int x5] [] (mm_Λ, I, J) mc ms o σ' := by
  refine mm_iload d87_70 rfl ?_
  refine mm_aload_n (v := .ref 13) d87_72 rfl (Or.inl ⟨_, rfl⟩) ?_
  refine mm_getfield (v := .ref 16) d87_73 okc5 fk87_18 rfl rfl (by nofun) ?_
  refine mm_iload_n d87_76 rfl ?_
  refine mm_iaload d87_77 rfl i77 ?_
  refine mm_icmp (tgt := 114) d87_78 (by decide) (fun h => ?_) (fun h => ?_)
  · exact mm_forget (kt h) (by exact ⟨rfl, rfl, rfl, rfl, rfl, trivial⟩)
  · exact kf h
theorem b87_81 {l : Launch} {X : Nat × (Nat → Int32)} {d : Nat} {I : Nat → Nat → Int32} {J : Nat → Nat → Int64} {x1 : Int32} {x2 : Int32} {x3 : Int32} {x4 : Int32} {x5 : Int32} {mc ms : Nat} {o : mm_O} {σ' : mm_S} (kt : ¬ x4 = (-1) → mm_Run l X 87 (d + 1) 114 [.ref 13, .int x1, .int x2, .int x3, .int x4, .null] [] (mm_Λ, I, J) mc ms o σ') (kf : ¬ (¬ x4 = (-1)) → mm_Run l X 87 (d + 1) 87 [.ref 13, .int x1, .int x2, .int x3, .int x4, .int x5] [] (mm_Λ, I, J) mc ms o σ') : mm_Run l X 87 (d + 1) 81 [.ref 13, .int x1, .int x2, .int x3, .int x4, .int x5] [] (mm_Λ, I, J) mc ms o σ' := by
  refine mm_iload d87_81 rfl ?_
  refine mm_ic d87_83 cim1 ?_
  refine mm_icmp (tgt := 114) d87_84 (by decide) (fun h => ?_) (fun h => ?_)
  · exact mm_forget (kt h) (by exact ⟨rfl, rfl, rfl, rfl, rfl, trivial⟩)
  · exact kf h
theorem b87_87 {l : Launch} {X : Nat × (Nat → Int32)} {d : Nat} {I : Nat → Nat → Int32} {J : Nat → Nat → Int64} {x1 : Int32} {x2 : Int32} {x3 : Int32} {x4 : Int32} {x5 : Int32} {mc ms : Nat} {o : mm_O} {σ' : mm_S} {r : Int32} {I1 : Nat → Nat → Int32} {J1 : Nat → Nat → Int64} (hcall : mm_Call l X 45 d [.int x1, .int x5] (mm_Λ, I, J) 0 0 (.inl (some (.int r))) (mm_Λ, I1, J1)) (hr : mm_Run l X 87 (d + 1) 94 [.ref 13, .int x1, .int x2, .int x3, .int x4, .int x5] [.int r, .ref 13] (mm_Λ, I1, J1) mc ms o σ') : mm_Run l X 87 (d + 1) 87 [.ref 13, .int x1, .int x2, .int x3, .int x4, .int x5] [] (mm_Λ, I, J) mc ms o σ' := by
  refine mm_aload_n (v := .ref 13) d87_87 rfl (Or.inl ⟨_, rfl⟩) ?_
  refine mm_iload_n d87_88 rfl ?_
  refine mm_iload d87_89 rfl ?_
  exact mm_callS0 (as := [.int x1, .int x5]) (S := [.ref 13]) d87_91 okm45 ln87_61 st45 rfl rfl (Nat.le_of_ble_eq_true rfl) (Nat.le_of_ble_eq_true rfl) hcall hr
theorem b87_94 {l : Launch} {X : Nat × (Nat → Int32)} {d : Nat} {I : Nat → Nat → Int32} {J : Nat → Nat → Int64} {x1 : Int32} {x2 : Int32} {x3 : Int32} {x4 : Int32} {x5 : Int32} {s0 : Int32} {mc ms : Nat} {o : mm_O} {σ' : mm_S} {r : Int32} {I1 : Nat → Nat → Int32} {J1 : Nat → Nat → Int64} (hcall : mm_Call l X 45 d [.int x2, .int x5] (mm_Λ, I, J) 0 0 (.inl (some (.int r))) (mm_Λ, I1, J1)) (hr : mm_Run l X 87 (d + 1) 100 [.ref 13, .int x1, .int x2, .int x3, .int x4, .int x5] [.int r, .int s0, .ref 13] (mm_Λ, I1, J1) mc ms o σ') : mm_Run l X 87 (d + 1) 94 [.ref 13, .int x1, .int x2, .int x3, .int x4, .int x5] [.int s0, .ref 13] (mm_Λ, I, J) mc ms o σ' := by
  refine mm_iload_n d87_94 rfl ?_
  refine mm_iload d87_95 rfl ?_
  exact mm_callS0 (as := [.int x2, .int x5]) (S := [.int s0, .ref 13]) d87_97 okm45 ln87_61 st45 rfl rfl (Nat.le_of_ble_eq_true rfl) (Nat.le_of_ble_eq_true rfl) hcall hr
theorem b87_100 {l : Launch} {X : Nat × (Nat → Int32)} {d : Nat} {I : Nat → Nat → Int32} {J : Nat → Nat → Int64} {x1 : Int32} {x2 : Int32} {x3 : Int32} {x4 : Int32} {x5 : Int32} {s0 : Int32} {s1 : Int32} {mc ms : Nat} {o : mm_O} {σ' : mm_S} {r : Int32} {I1 : Nat → Nat → Int32} {J1 : Nat → Nat → Int64} (hcall : mm_Call l X 87 d [.ref 13, .int s1, .int s0, .int (x3 + 1)] (mm_Λ, I, J) 0 0 (.inl (some (.int r))) (mm_Λ, I1, J1)) (hr : mm_Run l X 87 (d + 1) 106 [.ref 13, .int x1, .int x2, .int x3, .int x4, .int x5] [.int r] (mm_Λ, I1, J1) mc ms o σ') : mm_Run l X 87 (d + 1) 100 [.ref 13, .int x1, .int x2, .int x3, .int x4, .int x5] [.int s0, .int s1, .ref 13] (mm_Λ, I, J) mc ms o σ' := by
  refine mm_iload_n d87_100 rfl ?_
  refine mm_ic d87_101 ci1 ?_
  refine mm_iadd d87_102 ?_
  exact mm_callV0 (as := [.int s1, .int s0, .int (x3 + 1)]) (S := []) d87_103 okm87 ln87_100 im87 se87 rfl ⟨_, _, rfl⟩ rfl rfl (Nat.le_of_ble_eq_true rfl) (Nat.le_of_ble_eq_true rfl) hcall hr
theorem b87_106 {l : Launch} {X : Nat × (Nat → Int32)} {d : Nat} {I : Nat → Nat → Int32} {J : Nat → Nat → Int64} {x1 : Int32} {x2 : Int32} {x3 : Int32} {x4 : Int32} {x5 : Int32} {s0 : Int32} {mc ms : Nat} {o : mm_O} {σ' : mm_S} (hr : mm_Run l X 87 (d + 1) 70 [.ref 13, .int x1, .int x2, .int x3, .int s0, .int (x5 + 1)] [] (mm_Λ, I, J) mc ms o σ') : mm_Run l X 87 (d + 1) 106 [.ref 13, .int x1, .int x2, .int x3, .int x4, .int x5] [.int s0] (mm_Λ, I, J) mc ms o σ' := by
  refine mm_istore d87_106 (by decide +kernel) ?_
  refine mm_ii d87_108 ci1 rfl (by decide +kernel) ?_
  refine mm_goto (tgt := 70) d87_111 (by decide) ?_
  exact hr
theorem b87_114 {l : Launch} {X : Nat × (Nat → Int32)} {d : Nat} {I : Nat → Nat → Int32} {J : Nat → Nat → Int64} {x1 : Int32} {x2 : Int32} {x3 : Int32} {x4 : Int32} {mc ms : Nat}  : mm_Run l X 87 (d + 1) 114 [.ref 13, .int x1, .int x2, .int x3, .int x4, .null] [] (mm_Λ, I, J) mc ms (.inl (some (.int x4))) (mm_Λ, I, J) := by
  refine mm_iload d87_114 rfl ?_
  exact mm_ireturn d87_116 rfl
theorem b88_0 {l : Launch} {X : Nat × (Nat → Int32)} {d : Nat} {I : Nat → Nat → Int32} {J : Nat → Nat → Int64} {x0 : Int32} {mc ms : Nat} {o : mm_O} {σ' : mm_S} (hr : mm_Run l X 88 d 1 [.int x0] [.int x0] (mm_Λ, I, J) mc ms o σ') : mm_Run l X 88 d 0 [.int x0] [] (mm_Λ, I, J) mc ms o σ' := by
  refine mm_iload_n d88_0 rfl ?_
  exact hr
theorem b88_28 {l : Launch} {X : Nat × (Nat → Int32)} {d : Nat} {I : Nat → Nat → Int32} {J : Nat → Nat → Int64} {x0 : Int32} {mc ms : Nat}  : mm_Run l X 88 d 28 [.int x0] [] (mm_Λ, I, J) mc ms (.inl (some (.int (-2)))) (mm_Λ, I, J) := by
  refine mm_bi d88_28 cbm2 ?_
  exact mm_ireturn d88_30 rfl
theorem b88_31 {l : Launch} {X : Nat × (Nat → Int32)} {d : Nat} {I : Nat → Nat → Int32} {J : Nat → Nat → Int64} {x0 : Int32} {mc ms : Nat}  : mm_Run l X 88 d 31 [.int x0] [] (mm_Λ, I, J) mc ms (.inl (some (.int (-1)))) (mm_Λ, I, J) := by
  refine mm_ic d88_31 cim1 ?_
  exact mm_ireturn d88_32 rfl
theorem b88_33 {l : Launch} {X : Nat × (Nat → Int32)} {d : Nat} {I : Nat → Nat → Int32} {J : Nat → Nat → Int64} {x0 : Int32} {mc ms : Nat}  : mm_Run l X 88 d 33 [.int x0] [] (mm_Λ, I, J) mc ms (.inl (some (.int x0))) (mm_Λ, I, J) := by
  refine mm_iload_n d88_33 rfl ?_
  exact mm_ireturn d88_34 rfl
theorem b90_0 {l : Launch} {X : Nat × (Nat → Int32)} {d : Nat} {I : Nat → Nat → Int32} {J : Nat → Nat → Int64} {x1 : Int32} {x2 : Int32} {mc ms : Nat} {o : mm_O} {σ' : mm_S} {I1 : Nat → Nat → Int32} {J1 : Nat → Nat → Int64} (hcall : mm_Call l X 17 d [.int x1] (mm_Λ, I, J) 0 0 (.inl none) (mm_Λ, I1, J1)) (hr : mm_Run l X 90 (d + 1) 4 [.ref 0, .int x1, .int x2, .null] [] (mm_Λ, I1, J1) mc ms o σ') : mm_Run l X 90 (d + 1) 0 [.ref 0, .int x1, .int x2, .null] [] (mm_Λ, I, J) mc ms o σ' := by
  refine mm_iload_n d90_0 rfl ?_
  exact mm_callS0 (as := [.int x1]) (S := []) d90_1 okm17 ln90_81 st17 rfl rfl (Nat.le_of_ble_eq_true rfl) (Nat.le_of_ble_eq_true rfl) hcall hr
theorem b90_0t {l : Launch} {X : Nat × (Nat → Int32)} {d : Nat} {I : Nat → Nat → Int32} {J : Nat → Nat → Int64} {x1 : Int32} {x2 : Int32} {mc ms : Nat} {E : String} {I1 : Nat → Nat → Int32} {J1 : Nat → Nat → Int64} (hcall : mm_Call l X 17 d [.int x1] (mm_Λ, I, J) mc ms (.inr E) (mm_Λ, I1, J1)) : mm_Run l X 90 (d + 1) 0 [.ref 0, .int x1, .int x2, .null] [] (mm_Λ, I, J) mc ms (.inr E) (mm_Λ, I1, J1) := by
  refine mm_iload_n d90_0 rfl ?_
  exact mm_thrown_out (mm_callST (as := [.int x1]) (S := []) d90_1 okm17 ln90_81 st17 rfl rfl (Nat.le_of_ble_eq_true rfl) (Nat.le_of_ble_eq_true rfl) hcall) rfl
theorem b90_4 {l : Launch} {X : Nat × (Nat → Int32)} {d : Nat} {I : Nat → Nat → Int32} {J : Nat → Nat → Int64} {x1 : Int32} {x2 : Int32} {mc ms : Nat} {o : mm_O} {σ' : mm_S} {I1 : Nat → Nat → Int32} {J1 : Nat → Nat → Int64} (hcall : mm_Call l X 37 d [.int x2] (mm_Λ, I, J) 0 0 (.inl none) (mm_Λ, I1, J1)) (hr : mm_Run l X 90 (d + 1) 8 [.ref 0, .int x1, .int x2, .null] [] (mm_Λ, I1, J1) mc ms o σ') : mm_Run l X 90 (d + 1) 4 [.ref 0, .int x1, .int x2, .null] [] (mm_Λ, I, J) mc ms o σ' := by
  refine mm_iload_n d90_4 rfl ?_
  exact mm_callS0 (as := [.int x2]) (S := []) d90_5 okm37 ln90_113 st37 rfl rfl (Nat.le_of_ble_eq_true rfl) (Nat.le_of_ble_eq_true rfl) hcall hr
theorem b90_4t {l : Launch} {X : Nat × (Nat → Int32)} {d : Nat} {I : Nat → Nat → Int32} {J : Nat → Nat → Int64} {x1 : Int32} {x2 : Int32} {mc ms : Nat} {E : String} {I1 : Nat → Nat → Int32} {J1 : Nat → Nat → Int64} (hcall : mm_Call l X 37 d [.int x2] (mm_Λ, I, J) mc ms (.inr E) (mm_Λ, I1, J1)) : mm_Run l X 90 (d + 1) 4 [.ref 0, .int x1, .int x2, .null] [] (mm_Λ, I, J) mc ms (.inr E) (mm_Λ, I1, J1) := by
  refine mm_iload_n d90_4 rfl ?_
  exact mm_thrown_out (mm_callST (as := [.int x2]) (S := []) d90_5 okm37 ln90_113 st37 rfl rfl (Nat.le_of_ble_eq_true rfl) (Nat.le_of_ble_eq_true rfl) hcall) rfl
theorem b90_8 {l : Launch} {X : Nat × (Nat → Int32)} {d : Nat} {I : Nat → Nat → Int32} {J : Nat → Nat → Int64} {x1 : Int32} {x2 : Int32} {mc ms : Nat} {o : mm_O} {σ' : mm_S} {I1 : Nat → Nat → Int32} {J1 : Nat → Nat → Int64} (hcall : mm_Call l X 79 d [.ref 0] (mm_Λ, I, J) 0 0 (.inl none) (mm_Λ, I1, J1)) (hr : mm_Run l X 90 (d + 1) 12 [.ref 0, .int x1, .int x2, .null] [] (mm_Λ, I1, J1) mc ms o σ') : mm_Run l X 90 (d + 1) 8 [.ref 0, .int x1, .int x2, .null] [] (mm_Λ, I, J) mc ms o σ' := by
  refine mm_aload_n (v := .ref 0) d90_8 rfl (Or.inl ⟨_, rfl⟩) ?_
  exact mm_callV0 (as := []) (S := []) d90_9 okm79 ln90_174 im79 se79 rfl ⟨_, _, rfl⟩ rfl rfl (Nat.le_of_ble_eq_true rfl) (Nat.le_of_ble_eq_true rfl) hcall hr
theorem b90_8t {l : Launch} {X : Nat × (Nat → Int32)} {d : Nat} {I : Nat → Nat → Int32} {J : Nat → Nat → Int64} {x1 : Int32} {x2 : Int32} {mc ms : Nat} {E : String} {I1 : Nat → Nat → Int32} {J1 : Nat → Nat → Int64} (hcall : mm_Call l X 79 d [.ref 0] (mm_Λ, I, J) mc ms (.inr E) (mm_Λ, I1, J1)) : mm_Run l X 90 (d + 1) 8 [.ref 0, .int x1, .int x2, .null] [] (mm_Λ, I, J) mc ms (.inr E) (mm_Λ, I1, J1) := by
  refine mm_aload_n (v := .ref 0) d90_8 rfl (Or.inl ⟨_, rfl⟩) ?_
  exact mm_thrown_out (mm_callVT (as := []) (S := []) d90_9 okm79 ln90_174 im79 se79 rfl ⟨_, _, rfl⟩ rfl rfl (Nat.le_of_ble_eq_true rfl) (Nat.le_of_ble_eq_true rfl) hcall) rfl
theorem b90_12 {l : Launch} {X : Nat × (Nat → Int32)} {d : Nat} {I : Nat → Nat → Int32} {J : Nat → Nat → Int64} {x1 : Int32} {x2 : Int32} {mc ms : Nat} {o : mm_O} {σ' : mm_S} {r : Nat} {I1 : Nat → Nat → Int32} {J1 : Nat → Nat → Int64} (hcall : mm_Call l X 91 d [.ref 24, .int x1, .int x2] (mm_Λ, I, J) 0 0 (.inl (some (.retAddr (r + 1)))) (mm_Λ, I1, J1)) (hr : mm_Run l X 90 (d + 1) 21 [.ref 0, .int x1, .int x2, .null] [.retAddr (r + 1)] (mm_Λ, I1, J1) mc ms o σ') : mm_Run l X 90 (d + 1) 12 [.ref 0, .int x1, .int x2, .null] [] (mm_Λ, I, J) mc ms o σ' := by
  refine mm_aload_n (v := .ref 0) d90_12 rfl (Or.inl ⟨_, rfl⟩) ?_
  refine mm_getfield (v := .ref 24) d90_13 okc0 fk90_69 rfl rfl (by nofun) ?_
  refine mm_iload_n d90_16 rfl ?_
  refine mm_iload_n d90_17 rfl ?_
  exact mm_callV0 (as := [.int x1, .int x2]) (S := []) d90_18 okm91 ln90_184 im91 se91 rfl ⟨_, _, rfl⟩ rfl rfl (Nat.le_of_ble_eq_true rfl) (Nat.le_of_ble_eq_true rfl) hcall hr
theorem b90_21 {l : Launch} {X : Nat × (Nat → Int32)} {d : Nat} {I : Nat → Nat → Int32} {J : Nat → Nat → Int64} {x1 : Int32} {x2 : Int32} {s0 : Nat} {mc ms : Nat} {o : mm_O} {σ' : mm_S} {r : Int32} {I1 : Nat → Nat → Int32} {J1 : Nat → Nat → Int64} (hcall : mm_Call l X 97 d [.ref 24] (mm_Λ, I, J) 0 0 (.inl (some (.int r))) (mm_Λ, I1, J1)) (hr : mm_Run l X 90 (d + 1) 30 [.ref 0, .int x1, .int x2, .retAddr (s0 + 1)] [.int r, .ref 0] (mm_Λ, I1, J1) mc ms o σ') : mm_Run l X 90 (d + 1) 21 [.ref 0, .int x1, .int x2, .null] [.retAddr (s0 + 1)] (mm_Λ, I, J) mc ms o σ' := by
  refine mm_astore_n d90_21 (Or.inr (Or.inr ⟨_, rfl⟩)) (by decide +kernel) ?_
  refine mm_aload_n (v := .ref 0) d90_22 rfl (Or.inl ⟨_, rfl⟩) ?_
  refine mm_aload_n (v := .ref 0) d90_23 rfl (Or.inl ⟨_, rfl⟩) ?_
  refine mm_getfield (v := .ref 24) d90_24 okc0 fk90_69 rfl rfl (by nofun) ?_
  exact mm_callV0 (as := []) (S := [.ref 0]) d90_27 okm97 ln90_188 im97 se97 rfl ⟨_, _, rfl⟩ rfl rfl (Nat.le_of_ble_eq_true rfl) (Nat.le_of_ble_eq_true rfl) hcall hr
theorem b90_30 {l : Launch} {X : Nat × (Nat → Int32)} {d : Nat} {I : Nat → Nat → Int32} {J : Nat → Nat → Int64} {x1 : Int32} {x2 : Int32} {x3 : Nat} {s0 : Int32} {mc ms : Nat} {o : mm_O} {σ' : mm_S} {r : Int64} {I1 : Nat → Nat → Int32} {J1 : Nat → Nat → Int64} (hcall : mm_Call l X 98 d [.ref 24] (mm_Λ, (mm_set I 0 8 s0), J) 0 0 (.inl (some (.long r))) (mm_Λ, I1, J1)) (hr : mm_Run l X 90 (d + 1) 41 [.ref 0, .int x1, .int x2, .retAddr (x3 + 1)] [.long r, .ref 0] (mm_Λ, I1, J1) mc ms o σ') : mm_Run l X 90 (d + 1) 30 [.ref 0, .int x1, .int x2, .retAddr (x3 + 1)] [.int s0, .ref 0] (mm_Λ, I, J) mc ms o σ' := by
  refine mm_putfield d90_30 okc0 fk90_73 fp90_73 rfl rfl rfl ?_
  refine mm_aload_n (v := .ref 0) d90_33 rfl (Or.inl ⟨_, rfl⟩) ?_
  refine mm_aload_n (v := .ref 0) d90_34 rfl (Or.inl ⟨_, rfl⟩) ?_
  refine mm_getfield (v := .ref 24) d90_35 okc0 fk90_69 rfl rfl (by nofun) ?_
  exact mm_callV0 (as := []) (S := [.ref 0]) d90_38 okm98 ln90_191 im98 se98 rfl ⟨_, _, rfl⟩ rfl rfl (Nat.le_of_ble_eq_true rfl) (Nat.le_of_ble_eq_true rfl) hcall hr
theorem b90_41 {l : Launch} {X : Nat × (Nat → Int32)} {d : Nat} {I : Nat → Nat → Int32} {J : Nat → Nat → Int64} {x1 : Int32} {x2 : Int32} {x3 : Nat} {s0 : Int64} {mc ms : Nat} {o : mm_O} {σ' : mm_S} (ex3 : x3 < 3) (kt : ¬ x3 = 2 → mm_Run l X 90 (d + 1) 61 [.ref 0, .int x1, .int x2, .retAddr (x3 + 1)] [] (mm_Λ, I, (mm_set J 0 9 s0)) mc ms o σ') (kf : ¬ (¬ x3 = 2) → mm_Run l X 90 (d + 1) 51 [.ref 0, .int x1, .int x2, .retAddr (x3 + 1)] [] (mm_Λ, I, (mm_set J 0 9 s0)) mc ms o σ') : mm_Run l X 90 (d + 1) 41 [.ref 0, .int x1, .int x2, .retAddr (x3 + 1)] [.long s0, .ref 0] (mm_Λ, I, J) mc ms o σ' := by
  refine mm_putfield d90_41 okc0 fk90_77 fp90_77 rfl rfl rfl ?_
  refine mm_aload_n (v := .retAddr (x3 + 1)) d90_44 rfl (Or.inr ⟨_, rfl⟩) ?_
  refine mm_getstatic (j := 2) d90_45 (by decide) gs90_195 ?_
  refine mm_acmp (tgt := 61) d90_48 (by decide) ex3 (by decide) (fun h => ?_) (fun h => ?_)
  · exact kt h
  · exact kf h
theorem b90_51 {l : Launch} {X : Nat × (Nat → Int32)} {d : Nat} {I : Nat → Nat → Int32} {J : Nat → Nat → Int64} {x1 : Int32} {x2 : Int32} {x3 : Nat}   : mm_Run l X 90 (d + 1) 51 [.ref 0, .int x1, .int x2, .retAddr (x3 + 1)] [] (mm_Λ, I, J) 1 6 (.inr (mm_ex 2)) (mm_Λ, I, J) := by
  exact thr90_51
theorem b90_61 {l : Launch} {X : Nat × (Nat → Int32)} {d : Nat} {I : Nat → Nat → Int32} {J : Nat → Nat → Int64} {x1 : Int32} {x2 : Int32} {x3 : Nat} {mc ms : Nat} {o : mm_O} {σ' : mm_S} (ex3 : x3 < 3) (kt : ¬ x3 = 1 → mm_Run l X 90 (d + 1) 79 [.ref 0, .int x1, .int x2, .retAddr (x3 + 1)] [] (mm_Λ, I, J) mc ms o σ') (kf : ¬ (¬ x3 = 1) → mm_Run l X 90 (d + 1) 68 [.ref 0, .int x1, .int x2, .retAddr (x3 + 1)] [] (mm_Λ, I, J) mc ms o σ') : mm_Run l X 90 (d + 1) 61 [.ref 0, .int x1, .int x2, .retAddr (x3 + 1)] [] (mm_Λ, I, J) mc ms o σ' := by
  refine mm_aload_n (v := .retAddr (x3 + 1)) d90_61 rfl (Or.inr ⟨_, rfl⟩) ?_
  refine mm_getstatic (j := 1) d90_62 (by decide) gs90_203 ?_
  refine mm_acmp (tgt := 79) d90_65 (by decide) ex3 (by decide) (fun h => ?_) (fun h => ?_)
  · exact kt h
  · exact kf h
theorem b90_68 {l : Launch} {X : Nat × (Nat → Int32)} {d : Nat} {I : Nat → Nat → Int32} {J : Nat → Nat → Int64} {x1 : Int32} {x2 : Int32} {x3 : Nat} {mc ms : Nat} {o : mm_O} {σ' : mm_S} {I1 : Nat → Nat → Int32} {J1 : Nat → Nat → Int64} (hcall : mm_Call l X 47 d [.ref 13, .ref 11] (mm_Λ, I, J) 0 0 (.inl none) (mm_Λ, I1, J1)) (hr : mm_Run l X 90 (d + 1) 79 [.ref 0, .int x1, .int x2, .retAddr (x3 + 1)] [] (mm_Λ, I1, J1) mc ms o σ') : mm_Run l X 90 (d + 1) 68 [.ref 0, .int x1, .int x2, .retAddr (x3 + 1)] [] (mm_Λ, I, J) mc ms o σ' := by
  refine mm_aload_n (v := .ref 0) d90_68 rfl (Or.inl ⟨_, rfl⟩) ?_
  refine mm_getfield (v := .ref 13) d90_69 okc0 fk90_44 rfl rfl (by nofun) ?_
  refine mm_aload_n (v := .ref 0) d90_72 rfl (Or.inl ⟨_, rfl⟩) ?_
  refine mm_getfield (v := .ref 11) d90_73 okc0 fk90_35 rfl rfl (by nofun) ?_
  exact mm_callV0 (as := [.ref 11]) (S := []) d90_76 okm47 ln90_128 im47 se47 rfl ⟨_, _, rfl⟩ rfl rfl (Nat.le_of_ble_eq_true rfl) (Nat.le_of_ble_eq_true rfl) hcall hr
theorem b90_79 {l : Launch} {X : Nat × (Nat → Int32)} {d : Nat} {I : Nat → Nat → Int32} {J : Nat → Nat → Int64} {x1 : Int32} {x2 : Int32} {x3 : Nat} {mc ms : Nat} {o : mm_O} {σ' : mm_S} (ex3 : x3 < 3) (kt : x3 = 1 → mm_Run l X 90 (d + 1) 90 [.ref 0, .int x1, .int x2, .retAddr (x3 + 1)] [] (mm_Λ, I, J) mc ms o σ') (kf : ¬ (x3 = 1) → mm_Run l X 90 (d + 1) 86 [.ref 0, .int x1, .int x2, .retAddr (x3 + 1)] [] (mm_Λ, I, J) mc ms o σ') : mm_Run l X 90 (d + 1) 79 [.ref 0, .int x1, .int x2, .retAddr (x3 + 1)] [] (mm_Λ, I, J) mc ms o σ' := by
  refine mm_aload_n (v := .retAddr (x3 + 1)) d90_79 rfl (Or.inr ⟨_, rfl⟩) ?_
  refine mm_getstatic (j := 1) d90_80 (by decide) gs90_203 ?_
  refine mm_acmp (tgt := 90) d90_83 (by decide) ex3 (by decide) (fun h => ?_) (fun h => ?_)
  · exact kt h
  · exact kf h
theorem b90_86 {l : Launch} {X : Nat × (Nat → Int32)} {d : Nat} {I : Nat → Nat → Int32} {J : Nat → Nat → Int64} {x1 : Int32} {x2 : Int32} {x3 : Nat} {mc ms : Nat} {o : mm_O} {σ' : mm_S} (hr : mm_Run l X 90 (d + 1) 91 [.ref 0, .int x1, .int x2, .retAddr (x3 + 1)] [.int 1] (mm_Λ, I, J) mc ms o σ') : mm_Run l X 90 (d + 1) 86 [.ref 0, .int x1, .int x2, .retAddr (x3 + 1)] [] (mm_Λ, I, J) mc ms o σ' := by
  refine mm_ic d90_86 ci1 ?_
  refine mm_goto (tgt := 91) d90_87 (by decide) ?_
  exact hr
theorem b90_90 {l : Launch} {X : Nat × (Nat → Int32)} {d : Nat} {I : Nat → Nat → Int32} {J : Nat → Nat → Int64} {x1 : Int32} {x2 : Int32} {x3 : Nat} {mc ms : Nat} {o : mm_O} {σ' : mm_S} (hr : mm_Run l X 90 (d + 1) 91 [.ref 0, .int x1, .int x2, .retAddr (x3 + 1)] [.int 0] (mm_Λ, I, J) mc ms o σ') : mm_Run l X 90 (d + 1) 90 [.ref 0, .int x1, .int x2, .retAddr (x3 + 1)] [] (mm_Λ, I, J) mc ms o σ' := by
  refine mm_ic d90_90 ci0 ?_
  exact hr
theorem b90_91 {l : Launch} {X : Nat × (Nat → Int32)} {d : Nat} {I : Nat → Nat → Int32} {J : Nat → Nat → Int64} {x1 : Int32} {x2 : Int32} {x3 : Nat} {s0 : Int32} {mc ms : Nat} (hz : s0 = 0 ∨ s0 = 1) : mm_Run l X 90 (d + 1) 91 [.ref 0, .int x1, .int x2, .retAddr (x3 + 1)] [.int s0] (mm_Λ, I, J) mc ms (.inl (some (.int s0))) (mm_Λ, I, J) := by
  exact mm_zreturn d90_91 rfl hz
theorem b91_0 {l : Launch} {X : Nat × (Nat → Int32)} {d : Nat} {I : Nat → Nat → Int32} {J : Nat → Nat → Int64} {x1 : Int32} {x2 : Int32} {mc ms : Nat} {o : mm_O} {σ' : mm_S} {I1 : Nat → Nat → Int32} {J1 : Nat → Nat → Int64} (hcall : mm_Call l X 92 d [.ref 13, .int x1] (mm_Λ, I, J) 0 0 (.inl none) (mm_Λ, I1, J1)) (hr : mm_Run l X 91 (d + 1) 8 [.ref 24, .int x1, .int x2, .null, .null] [] (mm_Λ, I1, J1) mc ms o σ') : mm_Run l X 91 (d + 1) 0 [.ref 24, .int x1, .int x2, .null, .null] [] (mm_Λ, I, J) mc ms o σ' := by
  refine mm_aload_n (v := .ref 24) d91_0 rfl (Or.inl ⟨_, rfl⟩) ?_
  refine mm_getfield (v := .ref 13) d91_1 okc8 fk91_26 rfl rfl (by nofun) ?_
  refine mm_iload_n d91_4 rfl ?_
  exact mm_callV0 (as := [.int x1]) (S := []) d91_5 okm92 ln91_34 im92 se92 rfl ⟨_, _, rfl⟩ rfl rfl (Nat.le_of_ble_eq_true rfl) (Nat.le_of_ble_eq_true rfl) hcall hr
theorem b91_8 {l : Launch} {X : Nat × (Nat → Int32)} {d : Nat} {I : Nat → Nat → Int32} {J : Nat → Nat → Int64} {x1 : Int32} {x2 : Int32} {mc ms : Nat} {o : mm_O} {σ' : mm_S} (hr : mm_Run l X 91 (d + 1) 25 [.ref 24, .int x1, .int x2, .int 1, .null] [] (mm_Λ, (mm_set (mm_set I 24 3 0) 24 4 0), (mm_set J 24 5 0)) mc ms o σ') : mm_Run l X 91 (d + 1) 8 [.ref 24, .int x1, .int x2, .null, .null] [] (mm_Λ, I, J) mc ms o σ' := by
  refine mm_aload_n (v := .ref 24) d91_8 rfl (Or.inl ⟨_, rfl⟩) ?_
  refine mm_ic d91_9 ci0 ?_
  refine mm_putfield d91_10 okc8 fk91_15 fp91_15 rfl rfl rfl ?_
  refine mm_aload_n (v := .ref 24) d91_13 rfl (Or.inl ⟨_, rfl⟩) ?_
  refine mm_ic d91_14 ci0 ?_
  refine mm_putfield d91_15 okc8 fk91_19 fp91_19 rfl rfl rfl ?_
  refine mm_aload_n (v := .ref 24) d91_18 rfl (Or.inl ⟨_, rfl⟩) ?_
  refine mm_lc d91_19 lc0 ?_
  refine mm_putfield d91_20 okc8 fk91_22 fp91_22 rfl rfl rfl ?_
  refine mm_ic d91_23 ci1 ?_
  refine mm_istore_n d91_24 (by decide +kernel) ?_
  exact hr
theorem b91_25 {l : Launch} {X : Nat × (Nat → Int32)} {d : Nat} {I : Nat → Nat → Int32} {J : Nat → Nat → Int64} {x1 : Int32} {x2 : Int32} {x3 : Int32} {mc ms : Nat} {o : mm_O} {σ' : mm_S} (kt : x3 = 0 → mm_Run l X 91 (d + 1) 153 [.ref 24, .int x1, .int x2, .int x3, .null] [] (mm_Λ, I, J) mc ms o σ') (kf : ¬ (x3 = 0) → mm_Run l X 91 (d + 1) 29 [.ref 24, .int x1, .int x2, .int x3, .null] [] (mm_Λ, I, J) mc ms o σ') : mm_Run l X 91 (d + 1) 25 [.ref 24, .int x1, .int x2, .int x3, .null] [] (mm_Λ, I, J) mc ms o σ' := by
  refine mm_iload_n d91_25 rfl ?_
  refine mm_if (tgt := 153) d91_26 (by decide) (fun h => ?_) (fun h => ?_)
  · exact kt h
  · exact kf h
theorem b91_29 {l : Launch} {X : Nat × (Nat → Int32)} {d : Nat} {I : Nat → Nat → Int32} {J : Nat → Nat → Int64} {x1 : Int32} {x2 : Int32} {x3 : Int32} {mc ms : Nat} {o : mm_O} {σ' : mm_S} (kt : 2000 ≤ (I 24 4) → mm_Run l X 91 (d + 1) 153 [.ref 24, .int x1, .int x2, .int x3, .null] [] (mm_Λ, I, J) mc ms o σ') (kf : ¬ (2000 ≤ (I 24 4)) → mm_Run l X 91 (d + 1) 39 [.ref 24, .int x1, .int x2, .int x3, .null] [] (mm_Λ, I, J) mc ms o σ') : mm_Run l X 91 (d + 1) 29 [.ref 24, .int x1, .int x2, .int x3, .null] [] (mm_Λ, I, J) mc ms o σ' := by
  refine mm_aload_n (v := .ref 24) d91_29 rfl (Or.inl ⟨_, rfl⟩) ?_
  refine mm_getfield (v := .int (I 24 4)) d91_30 okc8 fk91_19 rfl rfl (by nofun) ?_
  refine mm_si d91_33 cs2000 ?_
  refine mm_icmp (tgt := 153) d91_36 (by decide) (fun h => ?_) (fun h => ?_)
  · exact kt h
  · exact kf h
theorem b91_39 {l : Launch} {X : Nat × (Nat → Int32)} {d : Nat} {I : Nat → Nat → Int32} {J : Nat → Nat → Int64} {x1 : Int32} {x2 : Int32} {x3 : Int32} {mc ms : Nat} {o : mm_O} {σ' : mm_S} {r : Int32} {I1 : Nat → Nat → Int32} {J1 : Nat → Nat → Int64} (hcall : mm_Call l X 81 d [.ref 19, .ref 13] (mm_Λ, I, J) 0 0 (.inl (some (.int r))) (mm_Λ, I1, J1)) (hr : mm_Run l X 91 (d + 1) 50 [.ref 24, .int x1, .int x2, .int x3, .null] [.int r] (mm_Λ, I1, J1) mc ms o σ') : mm_Run l X 91 (d + 1) 39 [.ref 24, .int x1, .int x2, .int x3, .null] [] (mm_Λ, I, J) mc ms o σ' := by
  refine mm_aload_n (v := .ref 24) d91_39 rfl (Or.inl ⟨_, rfl⟩) ?_
  refine mm_getfield (v := .ref 19) d91_40 okc8 fk91_30 rfl rfl (by nofun) ?_
  refine mm_aload_n (v := .ref 24) d91_43 rfl (Or.inl ⟨_, rfl⟩) ?_
  refine mm_getfield (v := .ref 13) d91_44 okc8 fk91_26 rfl rfl (by nofun) ?_
  exact mm_callV0 (as := [.ref 13]) (S := []) d91_47 okm81 ln91_40 im81 se81 rfl ⟨_, _, rfl⟩ rfl rfl (Nat.le_of_ble_eq_true rfl) (Nat.le_of_ble_eq_true rfl) hcall hr
theorem b91_50 {l : Launch} {X : Nat × (Nat → Int32)} {d : Nat} {I : Nat → Nat → Int32} {J : Nat → Nat → Int64} {x1 : Int32} {x2 : Int32} {x3 : Int32} {s0 : Int32} {mc ms : Nat} {o : mm_O} {σ' : mm_S} (kt : ¬ s0 = (-1) → mm_Run l X 91 (d + 1) 90 [.ref 24, .int x1, .int x2, .int x3, .int s0] [] (mm_Λ, (mm_set I 24 4 ((I 24 4) + 1)), J) mc ms o σ') (kf : ¬ (¬ s0 = (-1)) → mm_Run l X 91 (d + 1) 68 [.ref 24, .int x1, .int x2, .int x3, .int s0] [] (mm_Λ, (mm_set I 24 4 ((I 24 4) + 1)), J) mc ms o σ') : mm_Run l X 91 (d + 1) 50 [.ref 24, .int x1, .int x2, .int x3, .null] [.int s0] (mm_Λ, I, J) mc ms o σ' := by
  refine mm_istore d91_50 (by decide +kernel) ?_
  refine mm_aload_n (v := .ref 24) d91_52 rfl (Or.inl ⟨_, rfl⟩) ?_
  refine mm_dup d91_53 rfl ?_
  refine mm_getfield (v := .int (I 24 4)) d91_54 okc8 fk91_19 rfl rfl (by nofun) ?_
  refine mm_ic d91_57 ci1 ?_
  refine mm_iadd d91_58 ?_
  refine mm_putfield d91_59 okc8 fk91_19 fp91_19 rfl rfl rfl ?_
  refine mm_iload d91_62 rfl ?_
  refine mm_ic d91_64 cim1 ?_
  refine mm_icmp (tgt := 90) d91_65 (by decide) (fun h => ?_) (fun h => ?_)
  · exact kt h
  · exact kf h
theorem b91_68 {l : Launch} {X : Nat × (Nat → Int32)} {d : Nat} {I : Nat → Nat → Int32} {J : Nat → Nat → Int64} {x1 : Int32} {x2 : Int32} {x3 : Int32} {x4 : Int32} {mc ms : Nat} {o : mm_O} {σ' : mm_S} {r : Int64} {I1 : Nat → Nat → Int32} {J1 : Nat → Nat → Int64} (hcall : mm_Call l X 93 d [.ref 13, .int x2] (mm_Λ, I, J) 0 0 (.inl (some (.long r))) (mm_Λ, I1, J1)) (hr : mm_Run l X 91 (d + 1) 81 [.ref 24, .int x1, .int x2, .int x3, .int x4] [.long r, .long (J 24 5), .ref 24] (mm_Λ, I1, J1) mc ms o σ') : mm_Run l X 91 (d + 1) 68 [.ref 24, .int x1, .int x2, .int x3, .int x4] [] (mm_Λ, I, J) mc ms o σ' := by
  refine mm_aload_n (v := .ref 24) d91_68 rfl (Or.inl ⟨_, rfl⟩) ?_
  refine mm_aload_n (v := .ref 24) d91_69 rfl (Or.inl ⟨_, rfl⟩) ?_
  refine mm_getfield (v := .long (J 24 5)) d91_70 okc8 fk91_22 rfl rfl (by nofun) ?_
  refine mm_aload_n (v := .ref 24) d91_73 rfl (Or.inl ⟨_, rfl⟩) ?_
  refine mm_getfield (v := .ref 13) d91_74 okc8 fk91_26 rfl rfl (by nofun) ?_
  refine mm_iload_n d91_77 rfl ?_
  exact mm_callV0 (as := [.int x2]) (S := [.long (J 24 5), .ref 24]) d91_78 okm93 ln91_46 im93 se93 rfl ⟨_, _, rfl⟩ rfl rfl (Nat.le_of_ble_eq_true rfl) (Nat.le_of_ble_eq_true rfl) hcall hr
theorem b91_81 {l : Launch} {X : Nat × (Nat → Int32)} {d : Nat} {I : Nat → Nat → Int32} {J : Nat → Nat → Int64} {x1 : Int32} {x2 : Int32} {x3 : Int32} {x4 : Int32} {s0 : Int64} {s1 : Int64} {mc ms : Nat} {o : mm_O} {σ' : mm_S} {r : Int64} {I1 : Nat → Nat → Int32} {J1 : Nat → Nat → Int64} (hcall : mm_Call l X 29 d [.long s1, .long s0] (mm_Λ, I, J) 0 0 (.inl (some (.long r))) (mm_Λ, I1, J1)) (hr : mm_Run l X 91 (d + 1) 84 [.ref 24, .int x1, .int x2, .int x3, .int x4] [.long r, .ref 24] (mm_Λ, I1, J1) mc ms o σ') : mm_Run l X 91 (d + 1) 81 [.ref 24, .int x1, .int x2, .int x3, .int x4] [.long s0, .long s1, .ref 24] (mm_Λ, I, J) mc ms o σ' := by
  exact mm_callSN0 (as := [.long s1, .long s0]) (S := [.ref 24]) d91_81 okm29 ln91_50 st29 rfl rfl (Nat.le_of_ble_eq_true rfl) (Nat.le_of_ble_eq_true rfl) hcall hr
theorem b91_84 {l : Launch} {X : Nat × (Nat → Int32)} {d : Nat} {I : Nat → Nat → Int32} {J : Nat → Nat → Int64} {x1 : Int32} {x2 : Int32} {x3 : Int32} {x4 : Int32} {s0 : Int64} {mc ms : Nat} {o : mm_O} {σ' : mm_S} (hr : mm_Run l X 91 (d + 1) 144 [.ref 24, .int x1, .int x2, .int x3, .int x4] [] (mm_Λ, I, (mm_set J 24 5 s0)) mc ms o σ') : mm_Run l X 91 (d + 1) 84 [.ref 24, .int x1, .int x2, .int x3, .int x4] [.long s0, .ref 24] (mm_Λ, I, J) mc ms o σ' := by
  refine mm_putfield d91_84 okc8 fk91_22 fp91_22 rfl rfl rfl ?_
  refine mm_goto (tgt := 144) d91_87 (by decide) ?_
  exact hr
theorem b91_90 {l : Launch} {X : Nat × (Nat → Int32)} {d : Nat} {I : Nat → Nat → Int32} {J : Nat → Nat → Int64} {x1 : Int32} {x2 : Int32} {x3 : Int32} {x4 : Int32} {mc ms : Nat} {o : mm_O} {σ' : mm_S} (kt : ¬ x4 = (-2) → mm_Run l X 91 (d + 1) 114 [.ref 24, .int x1, .int x2, .int x3, .int x4] [] (mm_Λ, I, J) mc ms o σ') (kf : ¬ (¬ x4 = (-2)) → mm_Run l X 91 (d + 1) 97 [.ref 24, .int x1, .int x2, .int x3, .int x4] [] (mm_Λ, I, J) mc ms o σ') : mm_Run l X 91 (d + 1) 90 [.ref 24, .int x1, .int x2, .int x3, .int x4] [] (mm_Λ, I, J) mc ms o σ' := by
  refine mm_iload d91_90 rfl ?_
  refine mm_bi d91_92 cbm2 ?_
  refine mm_icmp (tgt := 114) d91_94 (by decide) (fun h => ?_) (fun h => ?_)
  · exact kt h
  · exact kf h
theorem b91_97 {l : Launch} {X : Nat × (Nat → Int32)} {d : Nat} {I : Nat → Nat → Int32} {J : Nat → Nat → Int64} {x1 : Int32} {x2 : Int32} {x3 : Int32} {x4 : Int32} {mc ms : Nat} {o : mm_O} {σ' : mm_S} {r : Int64} {I1 : Nat → Nat → Int32} {J1 : Nat → Nat → Int64} (hcall : mm_Call l X 93 d [.ref 13, .int x2] (mm_Λ, I, J) 0 0 (.inl (some (.long r))) (mm_Λ, I1, J1)) (hr : mm_Run l X 91 (d + 1) 105 [.ref 24, .int x1, .int x2, .int x3, .int x4] [.long r] (mm_Λ, I1, J1) mc ms o σ') : mm_Run l X 91 (d + 1) 97 [.ref 24, .int x1, .int x2, .int x3, .int x4] [] (mm_Λ, I, J) mc ms o σ' := by
  refine mm_aload_n (v := .ref 24) d91_97 rfl (Or.inl ⟨_, rfl⟩) ?_
  refine mm_getfield (v := .ref 13) d91_98 okc8 fk91_26 rfl rfl (by nofun) ?_
  refine mm_iload_n d91_101 rfl ?_
  exact mm_callV0 (as := [.int x2]) (S := []) d91_102 okm93 ln91_46 im93 se93 rfl ⟨_, _, rfl⟩ rfl rfl (Nat.le_of_ble_eq_true rfl) (Nat.le_of_ble_eq_true rfl) hcall hr
theorem b91_105 {l : Launch} {X : Nat × (Nat → Int32)} {d : Nat} {I : Nat → Nat → Int32} {J : Nat → Nat → Int64} {x1 : Int32} {x2 : Int32} {x3 : Int32} {x4 : Int32} {s0 : Int64} {mc ms : Nat} {o : mm_O} {σ' : mm_S} (kt : (lg_cmp s0 0) ≤ 0 → mm_Run l X 91 (d + 1) 144 [.ref 24, .int x1, .int x2, .int x3, .int x4] [] (mm_Λ, I, J) mc ms o σ') (kf : ¬ ((lg_cmp s0 0) ≤ 0) → mm_Run l X 91 (d + 1) 110 [.ref 24, .int x1, .int x2, .int x3, .int x4] [] (mm_Λ, I, J) mc ms o σ') : mm_Run l X 91 (d + 1) 105 [.ref 24, .int x1, .int x2, .int x3, .int x4] [.long s0] (mm_Λ, I, J) mc ms o σ' := by
  refine mm_lc d91_105 lc0 ?_
  refine mm_lcmp d91_106 ?_
  refine mm_if (tgt := 144) d91_107 (by decide) (fun h => ?_) (fun h => ?_)
  · exact kt h
  · exact kf h
theorem b91_110 {l : Launch} {X : Nat × (Nat → Int32)} {d : Nat} {I : Nat → Nat → Int32} {J : Nat → Nat → Int64} {x1 : Int32} {x2 : Int32} {x3 : Int32} {x4 : Int32} {mc ms : Nat}  : mm_Run l X 91 (d + 1) 110 [.ref 24, .int x1, .int x2, .int x3, .int x4] [] (mm_Λ, I, J) mc ms (.inl (some (.retAddr (1 + 1)))) (mm_Λ, I, J) := by
  refine mm_getstatic (j := 1) d91_110 (by decide) gs91_54 ?_
  exact mm_areturn (n := "LazyTester$Outcome") d91_113 rfl (Or.inr ⟨_, rfl⟩)
theorem b91_114 {l : Launch} {X : Nat × (Nat → Int32)} {d : Nat} {I : Nat → Nat → Int32} {J : Nat → Nat → Int64} {x1 : Int32} {x2 : Int32} {x3 : Int32} {x4 : Int32} {mc ms : Nat} {o : mm_O} {σ' : mm_S} (kt : 121 ≤ (I 24 3) → mm_Run l X 91 (d + 1) 144 [.ref 24, .int x1, .int x2, .int x3, .int x4] [] (mm_Λ, I, J) mc ms o σ') (kf : ¬ (121 ≤ (I 24 3)) → mm_Run l X 91 (d + 1) 123 [.ref 24, .int x1, .int x2, .int x3, .int x4] [] (mm_Λ, I, J) mc ms o σ') : mm_Run l X 91 (d + 1) 114 [.ref 24, .int x1, .int x2, .int x3, .int x4] [] (mm_Λ, I, J) mc ms o σ' := by
  refine mm_aload_n (v := .ref 24) d91_114 rfl (Or.inl ⟨_, rfl⟩) ?_
  refine mm_getfield (v := .int (I 24 3)) d91_115 okc8 fk91_15 rfl rfl (by nofun) ?_
  refine mm_bi d91_118 cb121 ?_
  refine mm_icmp (tgt := 144) d91_120 (by decide) (fun h => ?_) (fun h => ?_)
  · exact kt h
  · exact kf h
theorem b91_123 {l : Launch} {X : Nat × (Nat → Int32)} {d : Nat} {I : Nat → Nat → Int32} {J : Nat → Nat → Int64} {x1 : Int32} {x2 : Int32} {x3 : Int32} {x4 : Int32} {mc ms : Nat} {o : mm_O} {σ' : mm_S} (i133 : vp_in (I 24 3) 121) (hr : mm_Run l X 91 (d + 1) 144 [.ref 24, .int x1, .int x2, .int x3, .int x4] [] (mm_Λ, (mm_set (mm_set I 25 (I 24 3).toNatClampNeg x4) 24 3 ((I 24 3) + 1)), J) mc ms o σ') : mm_Run l X 91 (d + 1) 123 [.ref 24, .int x1, .int x2, .int x3, .int x4] [] (mm_Λ, I, J) mc ms o σ' := by
  refine mm_aload_n (v := .ref 24) d91_123 rfl (Or.inl ⟨_, rfl⟩) ?_
  refine mm_getfield (v := .ref 25) d91_124 okc8 fk91_9 rfl rfl (by nofun) ?_
  refine mm_aload_n (v := .ref 24) d91_127 rfl (Or.inl ⟨_, rfl⟩) ?_
  refine mm_getfield (v := .int (I 24 3)) d91_128 okc8 fk91_15 rfl rfl (by nofun) ?_
  refine mm_iload d91_131 rfl ?_
  refine mm_iastore d91_133 rfl i133 ?_
  refine mm_aload_n (v := .ref 24) d91_134 rfl (Or.inl ⟨_, rfl⟩) ?_
  refine mm_dup d91_135 rfl ?_
  refine mm_getfield (v := .int (I 24 3)) d91_136 okc8 fk91_15 rfl rfl (by nofun) ?_
  refine mm_ic d91_139 ci1 ?_
  refine mm_iadd d91_140 ?_
  refine mm_putfield d91_141 okc8 fk91_15 fp91_15 rfl rfl rfl ?_
  exact hr
theorem b91_144 {l : Launch} {X : Nat × (Nat → Int32)} {d : Nat} {I : Nat → Nat → Int32} {J : Nat → Nat → Int64} {x1 : Int32} {x2 : Int32} {x3 : Int32} {x4 : Int32} {mc ms : Nat} {o : mm_O} {σ' : mm_S} {r : Int32} {I1 : Nat → Nat → Int32} {J1 : Nat → Nat → Int64} (hcall : mm_Call l X 95 d [.ref 24, .int x2] (mm_Λ, I, J) 0 0 (.inl (some (.int r))) (mm_Λ, I1, J1)) (hr : mm_Run l X 91 (d + 1) 149 [.ref 24, .int x1, .int x2, .int x3, .int x4] [.int r] (mm_Λ, I1, J1) mc ms o σ') : mm_Run l X 91 (d + 1) 144 [.ref 24, .int x1, .int x2, .int x3, .int x4] [] (mm_Λ, I, J) mc ms o σ' := by
  refine mm_aload_n (v := .ref 24) d91_144 rfl (Or.inl ⟨_, rfl⟩) ?_
  refine mm_iload_n d91_145 rfl ?_
  exact mm_callV0 (as := [.int x2]) (S := []) d91_146 okm95 ln91_60 im95 se95 rfl ⟨_, _, rfl⟩ rfl rfl (Nat.le_of_ble_eq_true rfl) (Nat.le_of_ble_eq_true rfl) hcall hr
theorem b91_149 {l : Launch} {X : Nat × (Nat → Int32)} {d : Nat} {I : Nat → Nat → Int32} {J : Nat → Nat → Int64} {x1 : Int32} {x2 : Int32} {x3 : Int32} {x4 : Int32} {s0 : Int32} {mc ms : Nat} {o : mm_O} {σ' : mm_S} (hr : mm_Run l X 91 (d + 1) 25 [.ref 24, .int x1, .int x2, .int s0, .null] [] (mm_Λ, I, J) mc ms o σ') : mm_Run l X 91 (d + 1) 149 [.ref 24, .int x1, .int x2, .int x3, .int x4] [.int s0] (mm_Λ, I, J) mc ms o σ' := by
  refine mm_istore_n d91_149 (by decide +kernel) ?_
  refine mm_goto (tgt := 25) d91_150 (by decide) ?_
  exact mm_forget hr (by exact ⟨rfl, rfl, rfl, rfl, trivial⟩)
theorem b91_153 {l : Launch} {X : Nat × (Nat → Int32)} {d : Nat} {I : Nat → Nat → Int32} {J : Nat → Nat → Int64} {x1 : Int32} {x2 : Int32} {x3 : Int32} {mc ms : Nat} {o : mm_O} {σ' : mm_S} (kt : x3 = 0 → mm_Run l X 91 (d + 1) 163 [.ref 24, .int x1, .int x2, .int x3, .null] [] (mm_Λ, I, J) mc ms o σ') (kf : ¬ (x3 = 0) → mm_Run l X 91 (d + 1) 157 [.ref 24, .int x1, .int x2, .int x3, .null] [] (mm_Λ, I, J) mc ms o σ') : mm_Run l X 91 (d + 1) 153 [.ref 24, .int x1, .int x2, .int x3, .null] [] (mm_Λ, I, J) mc ms o σ' := by
  refine mm_iload_n d91_153 rfl ?_
  refine mm_if (tgt := 163) d91_154 (by decide) (fun h => ?_) (fun h => ?_)
  · exact kt h
  · exact kf h
theorem b91_157 {l : Launch} {X : Nat × (Nat → Int32)} {d : Nat} {I : Nat → Nat → Int32} {J : Nat → Nat → Int64} {x1 : Int32} {x2 : Int32} {x3 : Int32} {mc ms : Nat} {o : mm_O} {σ' : mm_S} (hr : mm_Run l X 91 (d + 1) 166 [.ref 24, .int x1, .int x2, .int x3, .null] [.retAddr (2 + 1)] (mm_Λ, I, J) mc ms o σ') : mm_Run l X 91 (d + 1) 157 [.ref 24, .int x1, .int x2, .int x3, .null] [] (mm_Λ, I, J) mc ms o σ' := by
  refine mm_getstatic (j := 2) d91_157 (by decide) gs91_64 ?_
  refine mm_goto (tgt := 166) d91_160 (by decide) ?_
  exact hr
theorem b91_163 {l : Launch} {X : Nat × (Nat → Int32)} {d : Nat} {I : Nat → Nat → Int32} {J : Nat → Nat → Int64} {x1 : Int32} {x2 : Int32} {x3 : Int32} {mc ms : Nat} {o : mm_O} {σ' : mm_S} (hr : mm_Run l X 91 (d + 1) 166 [.ref 24, .int x1, .int x2, .int x3, .null] [.retAddr (0 + 1)] (mm_Λ, I, J) mc ms o σ') : mm_Run l X 91 (d + 1) 163 [.ref 24, .int x1, .int x2, .int x3, .null] [] (mm_Λ, I, J) mc ms o σ' := by
  refine mm_getstatic (j := 0) d91_163 (by decide) gs91_67 ?_
  exact hr
theorem b91_166 {l : Launch} {X : Nat × (Nat → Int32)} {d : Nat} {I : Nat → Nat → Int32} {J : Nat → Nat → Int64} {x1 : Int32} {x2 : Int32} {x3 : Int32} {s0 : Nat} {mc ms : Nat}  : mm_Run l X 91 (d + 1) 166 [.ref 24, .int x1, .int x2, .int x3, .null] [.retAddr (s0 + 1)] (mm_Λ, I, J) mc ms (.inl (some (.retAddr (s0 + 1)))) (mm_Λ, I, J) := by
  exact mm_areturn (n := "LazyTester$Outcome") d91_166 rfl (Or.inr ⟨_, rfl⟩)
theorem b92_0 {l : Launch} {X : Nat × (Nat → Int32)} {d : Nat} {I : Nat → Nat → Int32} {J : Nat → Nat → Int64} {x1 : Int32} {mc ms : Nat} {o : mm_O} {σ' : mm_S} {I1 : Nat → Nat → Int32} {J1 : Nat → Nat → Int64} (hcall : mm_Call l X 46 d [.ref 13, .int 0] (mm_Λ, (mm_set I 14 0 x1), J) 0 0 (.inl none) (mm_Λ, I1, J1)) (hr : mm_Run l X 92 (d + 1) 12 [.ref 13, .int x1] [] (mm_Λ, I1, J1) mc ms o σ') : mm_Run l X 92 (d + 1) 0 [.ref 13, .int x1] [] (mm_Λ, I, J) mc ms o σ' := by
  refine mm_aload_n (v := .ref 13) d92_0 rfl (Or.inl ⟨_, rfl⟩) ?_
  refine mm_getfield (v := .ref 14) d92_1 okc5 fk92_9 rfl rfl (by nofun) ?_
  refine mm_ic d92_4 ci0 ?_
  refine mm_iload_n d92_5 rfl ?_
  refine mm_iastore d92_6 rfl (by unfold vp_in; decide) ?_
  refine mm_aload_n (v := .ref 13) d92_7 rfl (Or.inl ⟨_, rfl⟩) ?_
  refine mm_ic d92_8 ci0 ?_
  exact mm_callV0 (as := [.int 0]) (S := []) d92_9 okm46 ln92_29 im46 se46 rfl ⟨_, _, rfl⟩ rfl rfl (Nat.le_of_ble_eq_true rfl) (Nat.le_of_ble_eq_true rfl) hcall hr
theorem b92_12 {l : Launch} {X : Nat × (Nat → Int32)} {d : Nat} {I : Nat → Nat → Int32} {J : Nat → Nat → Int64} {x1 : Int32} {mc ms : Nat}  : mm_Run l X 92 (d + 1) 12 [.ref 13, .int x1] [] (mm_Λ, I, J) mc ms (.inl none) (mm_Λ, I, J) := by
  exact mm_vreturn d92_12 rfl
theorem b93_0 {l : Launch} {X : Nat × (Nat → Int32)} {d : Nat} {I : Nat → Nat → Int32} {J : Nat → Nat → Int64} {x1 : Int32} {mc ms : Nat} {o : mm_O} {σ' : mm_S} {r : Int64} {I1 : Nat → Nat → Int32} {J1 : Nat → Nat → Int64} (hcall : mm_Call l X 94 d [.ref 13, .int 0, .int x1] (mm_Λ, I, J) 0 0 (.inl (some (.long r))) (mm_Λ, I1, J1)) (hr : mm_Run l X 93 (d + 1) 6 [.ref 13, .int x1] [.long r] (mm_Λ, I1, J1) mc ms o σ') : mm_Run l X 93 (d + 1) 0 [.ref 13, .int x1] [] (mm_Λ, I, J) mc ms o σ' := by
  refine mm_aload_n (v := .ref 13) d93_0 rfl (Or.inl ⟨_, rfl⟩) ?_
  refine mm_ic d93_1 ci0 ?_
  refine mm_iload_n d93_2 rfl ?_
  exact mm_callV0 (as := [.int 0, .int x1]) (S := []) d93_3 okm94 ln93_75 im94 se94 rfl ⟨_, _, rfl⟩ rfl rfl (Nat.le_of_ble_eq_true rfl) (Nat.le_of_ble_eq_true rfl) hcall hr
theorem b93_6 {l : Launch} {X : Nat × (Nat → Int32)} {d : Nat} {I : Nat → Nat → Int32} {J : Nat → Nat → Int64} {x1 : Int32} {s0 : Int64} {mc ms : Nat}  : mm_Run l X 93 (d + 1) 6 [.ref 13, .int x1] [.long s0] (mm_Λ, I, J) mc ms (.inl (some (.long s0))) (mm_Λ, I, J) := by
  exact mm_lreturn d93_6 rfl
theorem b94_0 {l : Launch} {X : Nat × (Nat → Int32)} {d : Nat} {I : Nat → Nat → Int32} {J : Nat → Nat → Int64} {x1 : Int32} {x2 : Int32} {mc ms : Nat} {o : mm_O} {σ' : mm_S} (i5 : vp_in x1 256) (kt : ¬ (I 15 x1.toNatClampNeg) = (-2) → mm_Run l X 94 (d + 1) 26 [.ref 13, .int x1, .int x2, .null, .null, .null] [] (mm_Λ, I, J) mc ms o σ') (kf : ¬ (¬ (I 15 x1.toNatClampNeg) = (-2)) → mm_Run l X 94 (d + 1) 11 [.ref 13, .int x1, .int x2, .null, .null, .null] [] (mm_Λ, I, J) mc ms o σ') : mm_Run l X 94 (d + 1) 0 [.ref 13, .int x1, .int x2, .null, .null, .null] [] (mm_Λ, I, J) mc ms o σ' := by
  refine mm_aload_n (v := .ref 13) d94_0 rfl (Or.inl ⟨_, rfl⟩) ?_
  refine mm_getfield (v := .ref 15) d94_1 okc5 fk94_15 rfl rfl (by nofun) ?_
  refine mm_iload_n d94_4 rfl ?_
  refine mm_iaload d94_5 rfl i5 ?_
  refine mm_bi d94_6 cbm2 ?_
  refine mm_icmp (tgt := 26) d94_8 (by decide) (fun h => ?_) (fun h => ?_)
  · exact kt h
  · exact kf h
theorem b94_11 {l : Launch} {X : Nat × (Nat → Int32)} {d : Nat} {I : Nat → Nat → Int32} {J : Nat → Nat → Int64} {x1 : Int32} {x2 : Int32} {mc ms : Nat} {o : mm_O} {σ' : mm_S} (i20 : vp_in x1 256) {r : Int64} {I1 : Nat → Nat → Int32} {J1 : Nat → Nat → Int64} (hcall : mm_Call l X 27 d [.ref 5, .int (I 14 x1.toNatClampNeg), .int x2] (mm_Λ, I, J) 0 0 (.inl (some (.long r))) (mm_Λ, I1, J1)) (hr : mm_Run l X 94 (d + 1) 25 [.ref 13, .int x1, .int x2, .null, .null, .null] [.long r] (mm_Λ, I1, J1) mc ms o σ') : mm_Run l X 94 (d + 1) 11 [.ref 13, .int x1, .int x2, .null, .null, .null] [] (mm_Λ, I, J) mc ms o σ' := by
  refine mm_aload_n (v := .ref 13) d94_11 rfl (Or.inl ⟨_, rfl⟩) ?_
  refine mm_getfield (v := .ref 5) d94_12 okc5 fk94_25 rfl rfl (by nofun) ?_
  refine mm_aload_n (v := .ref 13) d94_15 rfl (Or.inl ⟨_, rfl⟩) ?_
  refine mm_getfield (v := .ref 14) d94_16 okc5 fk94_9 rfl rfl (by nofun) ?_
  refine mm_iload_n d94_19 rfl ?_
  refine mm_iaload d94_20 rfl i20 ?_
  refine mm_iload_n d94_21 rfl ?_
  exact mm_callV0 (as := [.int (I 14 x1.toNatClampNeg), .int x2]) (S := []) d94_22 okm27 ln94_78 im27 se27 rfl ⟨_, _, rfl⟩ rfl rfl (Nat.le_of_ble_eq_true rfl) (Nat.le_of_ble_eq_true rfl) hcall hr
theorem b94_25 {l : Launch} {X : Nat × (Nat → Int32)} {d : Nat} {I : Nat → Nat → Int32} {J : Nat → Nat → Int64} {x1 : Int32} {x2 : Int32} {s0 : Int64} {mc ms : Nat}  : mm_Run l X 94 (d + 1) 25 [.ref 13, .int x1, .int x2, .null, .null, .null] [.long s0] (mm_Λ, I, J) mc ms (.inl (some (.long s0))) (mm_Λ, I, J) := by
  exact mm_lreturn d94_25 rfl
theorem b94_26 {l : Launch} {X : Nat × (Nat → Int32)} {d : Nat} {I : Nat → Nat → Int32} {J : Nat → Nat → Int64} {x1 : Int32} {x2 : Int32} {mc ms : Nat} {o : mm_O} {σ' : mm_S} (kt : x2 ≤ 0 → mm_Run l X 94 (d + 1) 70 [.ref 13, .int x1, .int x2, .long 1, .null, .null] [] (mm_Λ, I, J) mc ms o σ') (kf : ¬ (x2 ≤ 0) → mm_Run l X 94 (d + 1) 32 [.ref 13, .int x1, .int x2, .long 1, .null, .null] [] (mm_Λ, I, J) mc ms o σ') : mm_Run l X 94 (d + 1) 26 [.ref 13, .int x1, .int x2, .null, .null, .null] [] (mm_Λ, I, J) mc ms o σ' := by
  refine mm_lc d94_26 lc1 ?_
  refine mm_lstore_n d94_27 (by decide +kernel) ?_
  refine mm_iload_n d94_28 rfl ?_
  refine mm_if (tgt := 70) d94_29 (by decide) (fun h => ?_) (fun h => ?_)
  · exact kt h
  · exact kf h
theorem b94_32 {l : Launch} {X : Nat × (Nat → Int32)} {d : Nat} {I : Nat → Nat → Int32} {J : Nat → Nat → Int64} {x1 : Int32} {x2 : Int32} {x3 : Int64} {mc ms : Nat} {o : mm_O} {σ' : mm_S} (hr : mm_Run l X 94 (d + 1) 35 [.ref 13, .int x1, .int x2, .long x3, .null, .int 0] [] (mm_Λ, I, J) mc ms o σ') : mm_Run l X 94 (d + 1) 32 [.ref 13, .int x1, .int x2, .long x3, .null, .null] [] (mm_Λ, I, J) mc ms o σ' := by
  refine mm_ic d94_32 ci0 ?_
  refine mm_istore d94_33 (by decide +kernel) ?_
  exact hr
theorem b94_35 {l : Launch} {X : Nat × (Nat → Int32)} {d : Nat} {I : Nat → Nat → Int32} {J : Nat → Nat → Int64} {x1 : Int32} {x2 : Int32} {x3 : Int64} {x5 : Int32} {mc ms : Nat} {o : mm_O} {σ' : mm_S} (i42 : vp_in x1 256) (kt : (I 16 x1.toNatClampNeg) ≤ x5 → mm_Run l X 94 (d + 1) 70 [.ref 13, .int x1, .int x2, .long x3, .null, .null] [] (mm_Λ, I, J) mc ms o σ') (kf : ¬ ((I 16 x1.toNatClampNeg) ≤ x5) → mm_Run l X 94 (d + 1) 46 [.ref 13, .int x1, .int x2, .long x3, .null, .int x5] [] (mm_Λ, I, J) mc ms o σ') : mm_Run l X 94 (d + 1) 35 [.ref 13, .int x1, .int x2, .long x3, .null, .int x5] [] (mm_Λ, I, J) mc ms o σ' := by
  refine mm_iload d94_35 rfl ?_
  refine mm_aload_n (v := .ref 13) d94_37 rfl (Or.inl ⟨_, rfl⟩) ?_
  refine mm_getfield (v := .ref 16) d94_38 okc5 fk94_18 rfl rfl (by nofun) ?_
  refine mm_iload_n d94_41 rfl ?_
  refine mm_iaload d94_42 rfl i42 ?_
  refine mm_icmp (tgt := 70) d94_43 (by decide) (fun h => ?_) (fun h => ?_)
  · exact mm_forget (kt h) (by exact ⟨rfl, rfl, rfl, rfl, trivial⟩)
  · exact kf h
theorem b94_46 {l : Launch} {X : Nat × (Nat → Int32)} {d : Nat} {I : Nat → Nat → Int32} {J : Nat → Nat → Int64} {x1 : Int32} {x2 : Int32} {x3 : Int64} {x5 : Int32} {mc ms : Nat} {o : mm_O} {σ' : mm_S} {r : Int32} {I1 : Nat → Nat → Int32} {J1 : Nat → Nat → Int64} (hcall : mm_Call l X 45 d [.int x1, .int x5] (mm_Λ, I, J) 0 0 (.inl (some (.int r))) (mm_Λ, I1, J1)) (hr : mm_Run l X 94 (d + 1) 54 [.ref 13, .int x1, .int x2, .long x3, .null, .int x5] [.int r, .ref 13, .long x3] (mm_Λ, I1, J1) mc ms o σ') : mm_Run l X 94 (d + 1) 46 [.ref 13, .int x1, .int x2, .long x3, .null, .int x5] [] (mm_Λ, I, J) mc ms o σ' := by
  refine mm_lload_n d94_46 rfl ?_
  refine mm_aload_n (v := .ref 13) d94_47 rfl (Or.inl ⟨_, rfl⟩) ?_
  refine mm_iload_n d94_48 rfl ?_
  refine mm_iload d94_49 rfl ?_
  exact mm_callS0 (as := [.int x1, .int x5]) (S := [.ref 13, .long x3]) d94_51 okm45 ln94_61 st45 rfl rfl (Nat.le_of_ble_eq_true rfl) (Nat.le_of_ble_eq_true rfl) hcall hr
theorem b94_54 {l : Launch} {X : Nat × (Nat → Int32)} {d : Nat} {I : Nat → Nat → Int32} {J : Nat → Nat → Int64} {x1 : Int32} {x2 : Int32} {x3 : Int64} {x5 : Int32} {s0 : Int32} {s2 : Int64} {mc ms : Nat} {o : mm_O} {σ' : mm_S} {r : Int64} {I1 : Nat → Nat → Int32} {J1 : Nat → Nat → Int64} (hcall : mm_Call l X 94 d [.ref 13, .int s0, .int (x2 - 1)] (mm_Λ, I, J) 0 0 (.inl (some (.long r))) (mm_Λ, I1, J1)) (hr : mm_Run l X 94 (d + 1) 60 [.ref 13, .int x1, .int x2, .long x3, .null, .int x5] [.long r, .long s2] (mm_Λ, I1, J1) mc ms o σ') : mm_Run l X 94 (d + 1) 54 [.ref 13, .int x1, .int x2, .long x3, .null, .int x5] [.int s0, .ref 13, .long s2] (mm_Λ, I, J) mc ms o σ' := by
  refine mm_iload_n d94_54 rfl ?_
  refine mm_ic d94_55 ci1 ?_
  refine mm_isub d94_56 ?_
  exact mm_callV0 (as := [.int s0, .int (x2 - 1)]) (S := [.long s2]) d94_57 okm94 ln94_75 im94 se94 rfl ⟨_, _, rfl⟩ rfl rfl (Nat.le_of_ble_eq_true rfl) (Nat.le_of_ble_eq_true rfl) hcall hr
theorem b94_60 {l : Launch} {X : Nat × (Nat → Int32)} {d : Nat} {I : Nat → Nat → Int32} {J : Nat → Nat → Int64} {x1 : Int32} {x2 : Int32} {x3 : Int64} {x5 : Int32} {s0 : Int64} {s1 : Int64} {mc ms : Nat} {o : mm_O} {σ' : mm_S} {r : Int64} {I1 : Nat → Nat → Int32} {J1 : Nat → Nat → Int64} (hcall : mm_Call l X 28 d [.long s1, .long s0] (mm_Λ, I, J) 0 0 (.inl (some (.long r))) (mm_Λ, I1, J1)) (hr : mm_Run l X 94 (d + 1) 63 [.ref 13, .int x1, .int x2, .long x3, .null, .int x5] [.long r] (mm_Λ, I1, J1) mc ms o σ') : mm_Run l X 94 (d + 1) 60 [.ref 13, .int x1, .int x2, .long x3, .null, .int x5] [.long s0, .long s1] (mm_Λ, I, J) mc ms o σ' := by
  exact mm_callSN0 (as := [.long s1, .long s0]) (S := []) d94_60 okm28 ln94_81 st28 rfl rfl (Nat.le_of_ble_eq_true rfl) (Nat.le_of_ble_eq_true rfl) hcall hr
theorem b94_63 {l : Launch} {X : Nat × (Nat → Int32)} {d : Nat} {I : Nat → Nat → Int32} {J : Nat → Nat → Int64} {x1 : Int32} {x2 : Int32} {x3 : Int64} {x5 : Int32} {s0 : Int64} {mc ms : Nat} {o : mm_O} {σ' : mm_S} (hr : mm_Run l X 94 (d + 1) 35 [.ref 13, .int x1, .int x2, .long s0, .null, .int (x5 + 1)] [] (mm_Λ, I, J) mc ms o σ') : mm_Run l X 94 (d + 1) 63 [.ref 13, .int x1, .int x2, .long x3, .null, .int x5] [.long s0] (mm_Λ, I, J) mc ms o σ' := by
  refine mm_lstore_n d94_63 (by decide +kernel) ?_
  refine mm_ii d94_64 ci1 rfl (by decide +kernel) ?_
  refine mm_goto (tgt := 35) d94_67 (by decide) ?_
  exact hr
theorem b94_70 {l : Launch} {X : Nat × (Nat → Int32)} {d : Nat} {I : Nat → Nat → Int32} {J : Nat → Nat → Int64} {x1 : Int32} {x2 : Int32} {x3 : Int64} {mc ms : Nat}  : mm_Run l X 94 (d + 1) 70 [.ref 13, .int x1, .int x2, .long x3, .null, .null] [] (mm_Λ, I, J) mc ms (.inl (some (.long x3))) (mm_Λ, I, J) := by
  refine mm_lload_n d94_70 rfl ?_
  exact mm_lreturn d94_71 rfl
theorem b95_0 {l : Launch} {X : Nat × (Nat → Int32)} {d : Nat} {I : Nat → Nat → Int32} {J : Nat → Nat → Int64} {x1 : Int32} {mc ms : Nat} {o : mm_O} {σ' : mm_S} (kt : (I 24 3) ≤ 0 → mm_Run l X 95 (d + 1) 44 [.ref 24, .int x1] [] (mm_Λ, I, J) mc ms o σ') (kf : ¬ ((I 24 3) ≤ 0) → mm_Run l X 95 (d + 1) 7 [.ref 24, .int x1] [] (mm_Λ, I, J) mc ms o σ') : mm_Run l X 95 (d + 1) 0 [.ref 24, .int x1] [] (mm_Λ, I, J) mc ms o σ' := by
  refine mm_aload_n (v := .ref 24) d95_0 rfl (Or.inl ⟨_, rfl⟩) ?_
  refine mm_getfield (v := .int (I 24 3)) d95_1 okc8 fk95_15 rfl rfl (by nofun) ?_
  refine mm_if (tgt := 44) d95_4 (by decide) (fun h => ?_) (fun h => ?_)
  · exact kt h
  · exact kf h
theorem b95_7 {l : Launch} {X : Nat × (Nat → Int32)} {d : Nat} {I : Nat → Nat → Int32} {J : Nat → Nat → Int64} {x1 : Int32} {mc ms : Nat} {o : mm_O} {σ' : mm_S} (i21 : vp_in ((I 24 3) - 1) 121) {r : Int32} {I1 : Nat → Nat → Int32} {J1 : Nat → Nat → Int64} (hcall : mm_Call l X 96 d [.ref 13, .int (I 25 ((I 24 3) - 1).toNatClampNeg), .int x1] (mm_Λ, I, J) 0 0 (.inl (some (.int r))) (mm_Λ, I1, J1)) (hr : mm_Run l X 95 (d + 1) 26 [.ref 24, .int x1] [.int r] (mm_Λ, I1, J1) mc ms o σ') : mm_Run l X 95 (d + 1) 7 [.ref 24, .int x1] [] (mm_Λ, I, J) mc ms o σ' := by
  refine mm_aload_n (v := .ref 24) d95_7 rfl (Or.inl ⟨_, rfl⟩) ?_
  refine mm_getfield (v := .ref 13) d95_8 okc8 fk95_26 rfl rfl (by nofun) ?_
  refine mm_aload_n (v := .ref 24) d95_11 rfl (Or.inl ⟨_, rfl⟩) ?_
  refine mm_getfield (v := .ref 25) d95_12 okc8 fk95_9 rfl rfl (by nofun) ?_
  refine mm_aload_n (v := .ref 24) d95_15 rfl (Or.inl ⟨_, rfl⟩) ?_
  refine mm_getfield (v := .int (I 24 3)) d95_16 okc8 fk95_15 rfl rfl (by nofun) ?_
  refine mm_ic d95_19 ci1 ?_
  refine mm_isub d95_20 ?_
  refine mm_iaload d95_21 rfl i21 ?_
  refine mm_iload_n d95_22 rfl ?_
  exact mm_callV0 (as := [.int (I 25 ((I 24 3) - 1).toNatClampNeg), .int x1]) (S := []) d95_23 okm96 ln95_70 im96 se96 rfl ⟨_, _, rfl⟩ rfl rfl (Nat.le_of_ble_eq_true rfl) (Nat.le_of_ble_eq_true rfl) hcall hr
theorem b95_26 {l : Launch} {X : Nat × (Nat → Int32)} {d : Nat} {I : Nat → Nat → Int32} {J : Nat → Nat → Int64} {x1 : Int32} {s0 : Int32} {mc ms : Nat} {o : mm_O} {σ' : mm_S} (kt : s0 = 0 → mm_Run l X 95 (d + 1) 31 [.ref 24, .int x1] [] (mm_Λ, I, J) mc ms o σ') (kf : ¬ (s0 = 0) → mm_Run l X 95 (d + 1) 29 [.ref 24, .int x1] [] (mm_Λ, I, J) mc ms o σ') : mm_Run l X 95 (d + 1) 26 [.ref 24, .int x1] [.int s0] (mm_Λ, I, J) mc ms o σ' := by
  refine mm_if (tgt := 31) d95_26 (by decide) (fun h => ?_) (fun h => ?_)
  · exact kt h
  · exact kf h
theorem b95_29 {l : Launch} {X : Nat × (Nat → Int32)} {d : Nat} {I : Nat → Nat → Int32} {J : Nat → Nat → Int64} {x1 : Int32} {mc ms : Nat}  : mm_Run l X 95 (d + 1) 29 [.ref 24, .int x1] [] (mm_Λ, I, J) mc ms (.inl (some (.int 1))) (mm_Λ, I, J) := by
  refine mm_ic d95_29 ci1 ?_
  exact mm_zreturn d95_30 rfl (by decide)
theorem b95_31 {l : Launch} {X : Nat × (Nat → Int32)} {d : Nat} {I : Nat → Nat → Int32} {J : Nat → Nat → Int64} {x1 : Int32} {mc ms : Nat} {o : mm_O} {σ' : mm_S} (hr : mm_Run l X 95 (d + 1) 0 [.ref 24, .int x1] [] (mm_Λ, (mm_set I 24 3 ((I 24 3) - 1)), J) mc ms o σ') : mm_Run l X 95 (d + 1) 31 [.ref 24, .int x1] [] (mm_Λ, I, J) mc ms o σ' := by
  refine mm_aload_n (v := .ref 24) d95_31 rfl (Or.inl ⟨_, rfl⟩) ?_
  refine mm_dup d95_32 rfl ?_
  refine mm_getfield (v := .int (I 24 3)) d95_33 okc8 fk95_15 rfl rfl (by nofun) ?_
  refine mm_ic d95_36 ci1 ?_
  refine mm_isub d95_37 ?_
  refine mm_putfield d95_38 okc8 fk95_15 fp95_15 rfl rfl rfl ?_
  refine mm_goto (tgt := 0) d95_41 (by decide) ?_
  exact hr
theorem b95_44 {l : Launch} {X : Nat × (Nat → Int32)} {d : Nat} {I : Nat → Nat → Int32} {J : Nat → Nat → Int64} {x1 : Int32} {mc ms : Nat}  : mm_Run l X 95 (d + 1) 44 [.ref 24, .int x1] [] (mm_Λ, I, J) mc ms (.inl (some (.int 0))) (mm_Λ, I, J) := by
  refine mm_ic d95_44 ci0 ?_
  exact mm_zreturn d95_45 rfl (by decide)
theorem b96_0 {l : Launch} {X : Nat × (Nat → Int32)} {d : Nat} {I : Nat → Nat → Int32} {J : Nat → Nat → Int64} {x1 : Int32} {x2 : Int32} {mc ms : Nat} {o : mm_O} {σ' : mm_S} (i5 : vp_in x1 256) {r : Int32} {I1 : Nat → Nat → Int32} {J1 : Nat → Nat → Int64} (hcall : mm_Call l X 85 d [.int x1] (mm_Λ, I, J) 0 0 (.inl (some (.int r))) (mm_Λ, I1, J1)) (hr : mm_Run l X 96 (d + 1) 11 [.ref 13, .int x1, .int x2, .int (I 14 x1.toNatClampNeg), .null, .null, .null] [.int r] (mm_Λ, I1, J1) mc ms o σ') : mm_Run l X 96 (d + 1) 0 [.ref 13, .int x1, .int x2, .null, .null, .null, .null] [] (mm_Λ, I, J) mc ms o σ' := by
  refine mm_aload_n (v := .ref 13) d96_0 rfl (Or.inl ⟨_, rfl⟩) ?_
  refine mm_getfield (v := .ref 14) d96_1 okc5 fk96_9 rfl rfl (by nofun) ?_
  refine mm_iload_n d96_4 rfl ?_
  refine mm_iaload d96_5 rfl i5 ?_
  refine mm_istore_n d96_6 (by decide +kernel) ?_
  refine mm_iload_n d96_7 rfl ?_
  exact mm_callS0 (as := [.int x1]) (S := []) d96_8 okm85 ln96_72 st85 rfl rfl (Nat.le_of_ble_eq_true rfl) (Nat.le_of_ble_eq_true rfl) hcall hr
theorem b96_11 {l : Launch} {X : Nat × (Nat → Int32)} {d : Nat} {I : Nat → Nat → Int32} {J : Nat → Nat → Int64} {x1 : Int32} {x2 : Int32} {x3 : Int32} {s0 : Int32} {mc ms : Nat} {o : mm_O} {σ' : mm_S} (kt : x2 ≤ s0 → mm_Run l X 96 (d + 1) 19 [.ref 13, .int x1, .int x2, .int x3, .null, .null, .null] [] (mm_Λ, I, J) mc ms o σ') (kf : ¬ (x2 ≤ s0) → mm_Run l X 96 (d + 1) 15 [.ref 13, .int x1, .int x2, .int x3, .null, .null, .null] [] (mm_Λ, I, J) mc ms o σ') : mm_Run l X 96 (d + 1) 11 [.ref 13, .int x1, .int x2, .int x3, .null, .null, .null] [.int s0] (mm_Λ, I, J) mc ms o σ' := by
  refine mm_iload_n d96_11 rfl ?_
  refine mm_icmp (tgt := 19) d96_12 (by decide) (fun h => ?_) (fun h => ?_)
  · exact kt h
  · exact kf h
theorem b96_15 {l : Launch} {X : Nat × (Nat → Int32)} {d : Nat} {I : Nat → Nat → Int32} {J : Nat → Nat → Int64} {x1 : Int32} {x2 : Int32} {x3 : Int32} {mc ms : Nat} {o : mm_O} {σ' : mm_S} (hr : mm_Run l X 96 (d + 1) 20 [.ref 13, .int x1, .int x2, .int x3, .null, .null, .null] [.int 1] (mm_Λ, I, J) mc ms o σ') : mm_Run l X 96 (d + 1) 15 [.ref 13, .int x1, .int x2, .int x3, .null, .null, .null] [] (mm_Λ, I, J) mc ms o σ' := by
  refine mm_ic d96_15 ci1 ?_
  refine mm_goto (tgt := 20) d96_16 (by decide) ?_
  exact hr
theorem b96_19 {l : Launch} {X : Nat × (Nat → Int32)} {d : Nat} {I : Nat → Nat → Int32} {J : Nat → Nat → Int64} {x1 : Int32} {x2 : Int32} {x3 : Int32} {mc ms : Nat} {o : mm_O} {σ' : mm_S} (hr : mm_Run l X 96 (d + 1) 20 [.ref 13, .int x1, .int x2, .int x3, .null, .null, .null] [.int 0] (mm_Λ, I, J) mc ms o σ') : mm_Run l X 96 (d + 1) 19 [.ref 13, .int x1, .int x2, .int x3, .null, .null, .null] [] (mm_Λ, I, J) mc ms o σ' := by
  refine mm_ic d96_19 ci0 ?_
  exact hr
theorem b96_20 {l : Launch} {X : Nat × (Nat → Int32)} {d : Nat} {I : Nat → Nat → Int32} {J : Nat → Nat → Int64} {x1 : Int32} {x2 : Int32} {x3 : Int32} {s0 : Int32} {mc ms : Nat} {o : mm_O} {σ' : mm_S} (i27 : vp_in x1 256) (kt : ¬ (I 15 x1.toNatClampNeg) = (-2) → mm_Run l X 96 (d + 1) 37 [.ref 13, .int x1, .int x2, .int x3, .int s0, .null, .null] [] (mm_Λ, I, J) mc ms o σ') (kf : ¬ (¬ (I 15 x1.toNatClampNeg) = (-2)) → mm_Run l X 96 (d + 1) 33 [.ref 13, .int x1, .int x2, .int x3, .int s0, .null, .null] [] (mm_Λ, I, J) mc ms o σ') : mm_Run l X 96 (d + 1) 20 [.ref 13, .int x1, .int x2, .int x3, .null, .null, .null] [.int s0] (mm_Λ, I, J) mc ms o σ' := by
  refine mm_istore d96_20 (by decide +kernel) ?_
  refine mm_aload_n (v := .ref 13) d96_22 rfl (Or.inl ⟨_, rfl⟩) ?_
  refine mm_getfield (v := .ref 15) d96_23 okc5 fk96_15 rfl rfl (by nofun) ?_
  refine mm_iload_n d96_26 rfl ?_
  refine mm_iaload d96_27 rfl i27 ?_
  refine mm_bi d96_28 cbm2 ?_
  refine mm_icmp (tgt := 37) d96_30 (by decide) (fun h => ?_) (fun h => ?_)
  · exact kt h
  · exact kf h
theorem b96_33 {l : Launch} {X : Nat × (Nat → Int32)} {d : Nat} {I : Nat → Nat → Int32} {J : Nat → Nat → Int64} {x1 : Int32} {x2 : Int32} {x3 : Int32} {x4 : Int32} {mc ms : Nat} {o : mm_O} {σ' : mm_S} (hr : mm_Run l X 96 (d + 1) 45 [.ref 13, .int x1, .int x2, .int x3, .int x4, .null, .null] [.int 0] (mm_Λ, I, J) mc ms o σ') : mm_Run l X 96 (d + 1) 33 [.ref 13, .int x1, .int x2, .int x3, .int x4, .null, .null] [] (mm_Λ, I, J) mc ms o σ' := by
  refine mm_ic d96_33 ci0 ?_
  refine mm_goto (tgt := 45) d96_34 (by decide) ?_
  exact hr
theorem b96_37 {l : Launch} {X : Nat × (Nat → Int32)} {d : Nat} {I : Nat → Nat → Int32} {J : Nat → Nat → Int64} {x1 : Int32} {x2 : Int32} {x3 : Int32} {x4 : Int32} {mc ms : Nat} {o : mm_O} {σ' : mm_S} (i42 : vp_in x1 256) (hr : mm_Run l X 96 (d + 1) 45 [.ref 13, .int x1, .int x2, .int x3, .int x4, .null, .null] [.int ((I 15 x1.toNatClampNeg) + 1)] (mm_Λ, I, J) mc ms o σ') : mm_Run l X 96 (d + 1) 37 [.ref 13, .int x1, .int x2, .int x3, .int x4, .null, .null] [] (mm_Λ, I, J) mc ms o σ' := by
  refine mm_aload_n (v := .ref 13) d96_37 rfl (Or.inl ⟨_, rfl⟩) ?_
  refine mm_getfield (v := .ref 15) d96_38 okc5 fk96_15 rfl rfl (by nofun) ?_
  refine mm_iload_n d96_41 rfl ?_
  refine mm_iaload d96_42 rfl i42 ?_
  refine mm_ic d96_43 ci1 ?_
  refine mm_iadd d96_44 ?_
  exact hr
theorem b96_45 {l : Launch} {X : Nat × (Nat → Int32)} {d : Nat} {I : Nat → Nat → Int32} {J : Nat → Nat → Int64} {x1 : Int32} {x2 : Int32} {x3 : Int32} {x4 : Int32} {s0 : Int32} {mc ms : Nat} {o : mm_O} {σ' : mm_S} (hr : mm_Run l X 96 (d + 1) 51 [.ref 13, .int x1, .int x2, .int x3, .int x4, .int s0, .int s0] [] (mm_Λ, I, J) mc ms o σ') : mm_Run l X 96 (d + 1) 45 [.ref 13, .int x1, .int x2, .int x3, .int x4, .null, .null] [.int s0] (mm_Λ, I, J) mc ms o σ' := by
  refine mm_istore d96_45 (by decide +kernel) ?_
  refine mm_iload d96_47 rfl ?_
  refine mm_istore d96_49 (by decide +kernel) ?_
  exact hr
theorem b96_51 {l : Launch} {X : Nat × (Nat → Int32)} {d : Nat} {I : Nat → Nat → Int32} {J : Nat → Nat → Int64} {x1 : Int32} {x2 : Int32} {x3 : Int32} {x4 : Int32} {x5 : Int32} {x6 : Int32} {mc ms : Nat} {o : mm_O} {σ' : mm_S} {r : Int32} {I1 : Nat → Nat → Int32} {J1 : Nat → Nat → Int64} (hcall : mm_Call l X 19 d [.ref 1, .int x3] (mm_Λ, I, J) 0 0 (.inl (some (.int r))) (mm_Λ, I1, J1)) (hr : mm_Run l X 96 (d + 1) 61 [.ref 13, .int x1, .int x2, .int x3, .int x4, .int x5, .int x6] [.int r, .int x6] (mm_Λ, I1, J1) mc ms o σ') : mm_Run l X 96 (d + 1) 51 [.ref 13, .int x1, .int x2, .int x3, .int x4, .int x5, .int x6] [] (mm_Λ, I, J) mc ms o σ' := by
  refine mm_iload d96_51 rfl ?_
  refine mm_aload_n (v := .ref 13) d96_53 rfl (Or.inl ⟨_, rfl⟩) ?_
  refine mm_getfield (v := .ref 1) d96_54 okc5 fk96_21 rfl rfl (by nofun) ?_
  refine mm_iload_n d96_57 rfl ?_
  exact mm_callV0 (as := [.int x3]) (S := [.int x6]) d96_58 okm19 ln96_37 im19 se19 rfl ⟨_, _, rfl⟩ rfl rfl (Nat.le_of_ble_eq_true rfl) (Nat.le_of_ble_eq_true rfl) hcall hr
theorem b96_61 {l : Launch} {X : Nat × (Nat → Int32)} {d : Nat} {I : Nat → Nat → Int32} {J : Nat → Nat → Int64} {x1 : Int32} {x2 : Int32} {x3 : Int32} {x4 : Int32} {x5 : Int32} {x6 : Int32} {s0 : Int32} {s1 : Int32} {mc ms : Nat} {o : mm_O} {σ' : mm_S} (kt : s0 ≤ s1 → mm_Run l X 96 (d + 1) 100 [.ref 13, .int x1, .int x2, .int x3, .int x4, .int x5, .int x6] [] (mm_Λ, I, J) mc ms o σ') (kf : ¬ (s0 ≤ s1) → mm_Run l X 96 (d + 1) 64 [.ref 13, .int x1, .int x2, .int x3, .int x4, .int x5, .int x6] [] (mm_Λ, I, J) mc ms o σ') : mm_Run l X 96 (d + 1) 61 [.ref 13, .int x1, .int x2, .int x3, .int x4, .int x5, .int x6] [.int s0, .int s1] (mm_Λ, I, J) mc ms o σ' := by
  refine mm_icmp (tgt := 100) d96_61 (by decide) (fun h => ?_) (fun h => ?_)
  · exact kt h
  · exact kf h
theorem b96_64 {l : Launch} {X : Nat × (Nat → Int32)} {d : Nat} {I : Nat → Nat → Int32} {J : Nat → Nat → Int64} {x1 : Int32} {x2 : Int32} {x3 : Int32} {x4 : Int32} {x5 : Int32} {x6 : Int32} {mc ms : Nat} {o : mm_O} {σ' : mm_S} (kt : ¬ x4 = 0 → mm_Run l X 96 (d + 1) 85 [.ref 13, .int x1, .int x2, .int x3, .int x4, .int x5, .int x6] [] (mm_Λ, I, J) mc ms o σ') (kf : ¬ (¬ x4 = 0) → mm_Run l X 96 (d + 1) 69 [.ref 13, .int x1, .int x2, .int x3, .int x4, .int x5, .int x6] [] (mm_Λ, I, J) mc ms o σ') : mm_Run l X 96 (d + 1) 64 [.ref 13, .int x1, .int x2, .int x3, .int x4, .int x5, .int x6] [] (mm_Λ, I, J) mc ms o σ' := by
  refine mm_iload d96_64 rfl ?_
  refine mm_if (tgt := 85) d96_66 (by decide) (fun h => ?_) (fun h => ?_)
  · exact kt h
  · exact kf h
theorem b96_69 {l : Launch} {X : Nat × (Nat → Int32)} {d : Nat} {I : Nat → Nat → Int32} {J : Nat → Nat → Int64} {x1 : Int32} {x2 : Int32} {x3 : Int32} {x4 : Int32} {x5 : Int32} {x6 : Int32} {mc ms : Nat} {o : mm_O} {σ' : mm_S} {r : Int32} {I1 : Nat → Nat → Int32} {J1 : Nat → Nat → Int64} (hcall : mm_Call l X 21 d [.int x3, .int x6] (mm_Λ, I, J) 0 0 (.inl (some (.int r))) (mm_Λ, I1, J1)) (hr : mm_Run l X 96 (d + 1) 79 [.ref 13, .int x1, .int x2, .int x3, .int x4, .int x5, .int x6] [.int r, .ref 1] (mm_Λ, I1, J1) mc ms o σ') : mm_Run l X 96 (d + 1) 69 [.ref 13, .int x1, .int x2, .int x3, .int x4, .int x5, .int x6] [] (mm_Λ, I, J) mc ms o σ' := by
  refine mm_aload_n (v := .ref 13) d96_69 rfl (Or.inl ⟨_, rfl⟩) ?_
  refine mm_getfield (v := .ref 1) d96_70 okc5 fk96_21 rfl rfl (by nofun) ?_
  refine mm_iload_n d96_73 rfl ?_
  refine mm_iload d96_74 rfl ?_
  exact mm_callS0 (as := [.int x3, .int x6]) (S := [.ref 1]) d96_76 okm21 ln96_43 st21 rfl rfl (Nat.le_of_ble_eq_true rfl) (Nat.le_of_ble_eq_true rfl) hcall hr
theorem b96_79 {l : Launch} {X : Nat × (Nat → Int32)} {d : Nat} {I : Nat → Nat → Int32} {J : Nat → Nat → Int64} {x1 : Int32} {x2 : Int32} {x3 : Int32} {x4 : Int32} {x5 : Int32} {x6 : Int32} {s0 : Int32} {mc ms : Nat} {o : mm_O} {σ' : mm_S} {r : Int32} {I1 : Nat → Nat → Int32} {J1 : Nat → Nat → Int64} (hcall : mm_Call l X 24 d [.ref 1, .int s0] (mm_Λ, I, J) 0 0 (.inl (some (.int r))) (mm_Λ, I1, J1)) (hr : mm_Run l X 96 (d + 1) 82 [.ref 13, .int x1, .int x2, .int x3, .int x4, .int x5, .int x6] [.int r] (mm_Λ, I1, J1) mc ms o σ') : mm_Run l X 96 (d + 1) 79 [.ref 13, .int x1, .int x2, .int x3, .int x4, .int x5, .int x6] [.int s0, .ref 1] (mm_Λ, I, J) mc ms o σ' := by
  exact mm_callV0 (as := [.int s0]) (S := []) d96_79 okm24 ln96_66 im24 se24 rfl ⟨_, _, rfl⟩ rfl rfl (Nat.le_of_ble_eq_true rfl) (Nat.le_of_ble_eq_true rfl) hcall hr
theorem b96_82 {l : Launch} {X : Nat × (Nat → Int32)} {d : Nat} {I : Nat → Nat → Int32} {J : Nat → Nat → Int64} {x1 : Int32} {x2 : Int32} {x3 : Int32} {x4 : Int32} {x5 : Int32} {x6 : Int32} {s0 : Int32} {mc ms : Nat} {o : mm_O} {σ' : mm_S} (kt : ¬ s0 = 0 → mm_Run l X 96 (d + 1) 94 [.ref 13, .int x1, .int x2, .int x3, .int x4, .int x5, .int x6] [] (mm_Λ, I, J) mc ms o σ') (kf : ¬ (¬ s0 = 0) → mm_Run l X 96 (d + 1) 85 [.ref 13, .int x1, .int x2, .int x3, .int x4, .int x5, .int x6] [] (mm_Λ, I, J) mc ms o σ') : mm_Run l X 96 (d + 1) 82 [.ref 13, .int x1, .int x2, .int x3, .int x4, .int x5, .int x6] [.int s0] (mm_Λ, I, J) mc ms o σ' := by
  refine mm_if (tgt := 94) d96_82 (by decide) (fun h => ?_) (fun h => ?_)
  · exact kt h
  · exact kf h
theorem b96_85 {l : Launch} {X : Nat × (Nat → Int32)} {d : Nat} {I : Nat → Nat → Int32} {J : Nat → Nat → Int64} {x1 : Int32} {x2 : Int32} {x3 : Int32} {x4 : Int32} {x5 : Int32} {x6 : Int32} {mc ms : Nat} {o : mm_O} {σ' : mm_S} {I1 : Nat → Nat → Int32} {J1 : Nat → Nat → Int64} (hcall : mm_Call l X 44 d [.ref 13, .int x1, .int x6] (mm_Λ, I, J) 0 0 (.inl none) (mm_Λ, I1, J1)) (hr : mm_Run l X 96 (d + 1) 92 [.ref 13, .int x1, .int x2, .int x3, .int x4, .int x5, .int x6] [] (mm_Λ, I1, J1) mc ms o σ') : mm_Run l X 96 (d + 1) 85 [.ref 13, .int x1, .int x2, .int x3, .int x4, .int x5, .int x6] [] (mm_Λ, I, J) mc ms o σ' := by
  refine mm_aload_n (v := .ref 13) d96_85 rfl (Or.inl ⟨_, rfl⟩) ?_
  refine mm_iload_n d96_86 rfl ?_
  refine mm_iload d96_87 rfl ?_
  exact mm_callV0 (as := [.int x1, .int x6]) (S := []) d96_89 okm44 ln96_53 im44 se44 rfl ⟨_, _, rfl⟩ rfl rfl (Nat.le_of_ble_eq_true rfl) (Nat.le_of_ble_eq_true rfl) hcall hr
theorem b96_92 {l : Launch} {X : Nat × (Nat → Int32)} {d : Nat} {I : Nat → Nat → Int32} {J : Nat → Nat → Int64} {x1 : Int32} {x2 : Int32} {x3 : Int32} {x4 : Int32} {x5 : Int32} {x6 : Int32} {mc ms : Nat}  : mm_Run l X 96 (d + 1) 92 [.ref 13, .int x1, .int x2, .int x3, .int x4, .int x5, .int x6] [] (mm_Λ, I, J) mc ms (.inl (some (.int 1))) (mm_Λ, I, J) := by
  refine mm_ic d96_92 ci1 ?_
  exact mm_zreturn d96_93 rfl (by decide)
theorem b96_94 {l : Launch} {X : Nat × (Nat → Int32)} {d : Nat} {I : Nat → Nat → Int32} {J : Nat → Nat → Int64} {x1 : Int32} {x2 : Int32} {x3 : Int32} {x4 : Int32} {x5 : Int32} {x6 : Int32} {mc ms : Nat} {o : mm_O} {σ' : mm_S} (hr : mm_Run l X 96 (d + 1) 51 [.ref 13, .int x1, .int x2, .int x3, .int x4, .int x5, .int (x6 + 1)] [] (mm_Λ, I, J) mc ms o σ') : mm_Run l X 96 (d + 1) 94 [.ref 13, .int x1, .int x2, .int x3, .int x4, .int x5, .int x6] [] (mm_Λ, I, J) mc ms o σ' := by
  refine mm_ii d96_94 ci1 rfl (by decide +kernel) ?_
  refine mm_goto (tgt := 51) d96_97 (by decide) ?_
  exact hr
theorem b96_100 {l : Launch} {X : Nat × (Nat → Int32)} {d : Nat} {I : Nat → Nat → Int32} {J : Nat → Nat → Int64} {x1 : Int32} {x2 : Int32} {x3 : Int32} {x4 : Int32} {x5 : Int32} {x6 : Int32} {mc ms : Nat} {o : mm_O} {σ' : mm_S} {I1 : Nat → Nat → Int32} {J1 : Nat → Nat → Int64} (hcall : mm_Call l X 46 d [.ref 13, .int x1] (mm_Λ, I, J) 0 0 (.inl none) (mm_Λ, I1, J1)) (hr : mm_Run l X 96 (d + 1) 105 [.ref 13, .int x1, .int x2, .int x3, .int x4, .int x5, .int x6] [] (mm_Λ, I1, J1) mc ms o σ') : mm_Run l X 96 (d + 1) 100 [.ref 13, .int x1, .int x2, .int x3, .int x4, .int x5, .int x6] [] (mm_Λ, I, J) mc ms o σ' := by
  refine mm_aload_n (v := .ref 13) d96_100 rfl (Or.inl ⟨_, rfl⟩) ?_
  refine mm_iload_n d96_101 rfl ?_
  exact mm_callV0 (as := [.int x1]) (S := []) d96_102 okm46 ln96_29 im46 se46 rfl ⟨_, _, rfl⟩ rfl rfl (Nat.le_of_ble_eq_true rfl) (Nat.le_of_ble_eq_true rfl) hcall hr
theorem b96_105 {l : Launch} {X : Nat × (Nat → Int32)} {d : Nat} {I : Nat → Nat → Int32} {J : Nat → Nat → Int64} {x1 : Int32} {x2 : Int32} {x3 : Int32} {x4 : Int32} {x5 : Int32} {x6 : Int32} {mc ms : Nat}  : mm_Run l X 96 (d + 1) 105 [.ref 13, .int x1, .int x2, .int x3, .int x4, .int x5, .int x6] [] (mm_Λ, I, J) mc ms (.inl (some (.int 0))) (mm_Λ, I, J) := by
  refine mm_ic d96_105 ci0 ?_
  exact mm_zreturn d96_106 rfl (by decide)
theorem b97_0 {l : Launch} {X : Nat × (Nat → Int32)} {d : Nat} {I : Nat → Nat → Int32} {J : Nat → Nat → Int64}  {mc ms : Nat}  : mm_Run l X 97 d 0 [.ref 24] [] (mm_Λ, I, J) mc ms (.inl (some (.int (I 24 4)))) (mm_Λ, I, J) := by
  refine mm_aload_n (v := .ref 24) d97_0 rfl (Or.inl ⟨_, rfl⟩) ?_
  refine mm_getfield (v := .int (I 24 4)) d97_1 okc8 fk97_19 rfl rfl (by nofun) ?_
  exact mm_ireturn d97_4 rfl
theorem b98_0 {l : Launch} {X : Nat × (Nat → Int32)} {d : Nat} {I : Nat → Nat → Int32} {J : Nat → Nat → Int64}  {mc ms : Nat}  : mm_Run l X 98 d 0 [.ref 24] [] (mm_Λ, I, J) mc ms (.inl (some (.long (J 24 5)))) (mm_Λ, I, J) := by
  refine mm_aload_n (v := .ref 24) d98_0 rfl (Or.inl ⟨_, rfl⟩) ?_
  refine mm_getfield (v := .long (J 24 5)) d98_1 okc8 fk98_22 rfl rfl (by nofun) ?_
  exact mm_lreturn d98_4 rfl
