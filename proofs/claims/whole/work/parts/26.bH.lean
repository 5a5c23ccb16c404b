/-! ===== blocks ===== -/
theorem b15_0 {l : Launch} {X : Nat × (Nat → Int32)} {d : Nat} {I : Nat → Nat → Int32} {J : Nat → Nat → Int64} {x1 : Int32} {x2 : Int32} {x3 : Int32} {x4 : Int32} {x5 : Int32} {mc ms : Nat} {o : mm_O} {σ' : mm_S} {r : Int32} {I1 : Nat → Nat → Int32} {J1 : Nat → Nat → Int64} (hcall : mm_Call l X 16 d [.ref 0, .int x1, .int x2, .int x3, .int x4, .int x5] (mm_Λ, I, J) 0 0 (.inl (some (.int r))) (mm_Λ, I1, J1)) (hr : mm_Run l X 15 (d + 1) 14 [.ref 0, .int x1, .int x2, .int x3, .int x4, .int x5, .ref 45, .null] [.int r, .int 0, .ref 45] (mm_Λ, I1, J1) mc ms o σ') : mm_Run l X 15 (d + 1) 0 [.ref 0, .int x1, .int x2, .int x3, .int x4, .int x5, .ref 45, .null] [] (mm_Λ, I, J) mc ms o σ' := by
  refine mm_aload (v := .ref 45) d15_0 rfl (Or.inl ⟨_, rfl⟩) ?_
  refine mm_ic d15_2 ci0 ?_
  refine mm_aload_n (v := .ref 0) d15_3 rfl (Or.inl ⟨_, rfl⟩) ?_
  refine mm_iload_n d15_4 rfl ?_
  refine mm_iload_n d15_5 rfl ?_
  refine mm_iload_n d15_6 rfl ?_
  refine mm_iload d15_7 rfl ?_
  refine mm_iload d15_9 rfl ?_
  exact mm_callV0 (as := [.int x1, .int x2, .int x3, .int x4, .int x5]) (S := [.int 0, .ref 45]) d15_11 okm16 ln15_7 im16 se16 rfl ⟨_, _, rfl⟩ rfl rfl (Nat.le_of_ble_eq_true rfl) (Nat.le_of_ble_eq_true rfl) hcall hr
theorem b15_0c0 {l : Launch} {X : Nat × (Nat → Int32)} {d : Nat} {I : Nat → Nat → Int32} {J : Nat → Nat → Int64} {x1 : Int32} {x2 : Int32} {x3 : Int32} {x4 : Int32} {x5 : Int32} {o : mm_O} {σ' : mm_S} {I1 : Nat → Nat → Int32} {J1 : Nat → Nat → Int64} {mc ms mc1 ms1 : Nat} (hcall : mm_Call l X 16 d [.ref 0, .int x1, .int x2, .int x3, .int x4, .int x5] (mm_Λ, I, J) mc1 ms1 (.inr (mm_ex 0)) (mm_Λ, I1, J1)) (hr : mm_Run l X 15 (d + 1) 19 [.ref 0, .int x1, .int x2, .int x3, .int x4, .int x5, .ref 45, .null] [.null] (mm_Λ, I1, J1) mc ms o σ') : mm_Run l X 15 (d + 1) 0 [.ref 0, .int x1, .int x2, .int x3, .int x4, .int x5, .ref 45, .null] [] (mm_Λ, I, J) (mc1 + mc) (ms1 + ms) o σ' := by
  refine mm_aload (v := .ref 45) d15_0 rfl (Or.inl ⟨_, rfl⟩) ?_
  refine mm_ic d15_2 ci0 ?_
  refine mm_aload_n (v := .ref 0) d15_3 rfl (Or.inl ⟨_, rfl⟩) ?_
  refine mm_iload_n d15_4 rfl ?_
  refine mm_iload_n d15_5 rfl ?_
  refine mm_iload_n d15_6 rfl ?_
  refine mm_iload d15_7 rfl ?_
  refine mm_iload d15_9 rfl ?_
  refine mm_caught (i := 0) (pre := []) (sp := 0) (ep := 16) (hp := 19) (ct := 13) (mm_callVT (as := [.int x1, .int x2, .int x3, .int x4, .int x5]) (S := [.int 0, .ref 45]) d15_11 okm16 ln15_7 im16 se16 rfl ⟨_, _, rfl⟩ rfl rfl (Nat.le_of_ble_eq_true rfl) (Nat.le_of_ble_eq_true rfl) hcall) (by decide) rfl ?_ (by decide) (by decide) (mm_in 241 (by decide +kernel) rfl) (mm_in 253 (by decide +kernel) rfl) hr
  intro y hy
  cases hy
theorem b15_0c1 {l : Launch} {X : Nat × (Nat → Int32)} {d : Nat} {I : Nat → Nat → Int32} {J : Nat → Nat → Int64} {x1 : Int32} {x2 : Int32} {x3 : Int32} {x4 : Int32} {x5 : Int32} {o : mm_O} {σ' : mm_S} {I1 : Nat → Nat → Int32} {J1 : Nat → Nat → Int64} {mc ms mc1 ms1 : Nat} (hcall : mm_Call l X 16 d [.ref 0, .int x1, .int x2, .int x3, .int x4, .int x5] (mm_Λ, I, J) mc1 ms1 (.inr (mm_ex 1)) (mm_Λ, I1, J1)) (hr : mm_Run l X 15 (d + 1) 23 [.ref 0, .int x1, .int x2, .int x3, .int x4, .int x5, .ref 45, .null] [.null] (mm_Λ, I1, J1) mc ms o σ') : mm_Run l X 15 (d + 1) 0 [.ref 0, .int x1, .int x2, .int x3, .int x4, .int x5, .ref 45, .null] [] (mm_Λ, I, J) (mc1 + mc) (ms1 + ms) o σ' := by
  refine mm_aload (v := .ref 45) d15_0 rfl (Or.inl ⟨_, rfl⟩) ?_
  refine mm_ic d15_2 ci0 ?_
  refine mm_aload_n (v := .ref 0) d15_3 rfl (Or.inl ⟨_, rfl⟩) ?_
  refine mm_iload_n d15_4 rfl ?_
  refine mm_iload_n d15_5 rfl ?_
  refine mm_iload_n d15_6 rfl ?_
  refine mm_iload d15_7 rfl ?_
  refine mm_iload d15_9 rfl ?_
  refine mm_caught (i := 1) (pre := [(0, 16, 19, 13)]) (sp := 0) (ep := 16) (hp := 23) (ct := 15) (mm_callVT (as := [.int x1, .int x2, .int x3, .int x4, .int x5]) (S := [.int 0, .ref 45]) d15_11 okm16 ln15_7 im16 se16 rfl ⟨_, _, rfl⟩ rfl rfl (Nat.le_of_ble_eq_true rfl) (Nat.le_of_ble_eq_true rfl) hcall) (by decide) rfl ?_ (by decide) (by decide) (mm_in 242 (by decide +kernel) rfl) (mm_in 321 (by decide +kernel) rfl) hr
  intro y hy
  simp only [List.mem_cons, List.not_mem_nil, or_false] at hy
  rcases hy with rfl
  · exact ⟨by decide, 0, by decide, by decide, (mm_in 241 (by decide +kernel) rfl)⟩
theorem b15_0c2 {l : Launch} {X : Nat × (Nat → Int32)} {d : Nat} {I : Nat → Nat → Int32} {J : Nat → Nat → Int64} {x1 : Int32} {x2 : Int32} {x3 : Int32} {x4 : Int32} {x5 : Int32} {o : mm_O} {σ' : mm_S} {I1 : Nat → Nat → Int32} {J1 : Nat → Nat → Int64} {mc ms mc1 ms1 : Nat} (hcall : mm_Call l X 16 d [.ref 0, .int x1, .int x2, .int x3, .int x4, .int x5] (mm_Λ, I, J) mc1 ms1 (.inr (mm_ex 2)) (mm_Λ, I1, J1)) (hr : mm_Run l X 15 (d + 1) 27 [.ref 0, .int x1, .int x2, .int x3, .int x4, .int x5, .ref 45, .null] [.null] (mm_Λ, I1, J1) mc ms o σ') : mm_Run l X 15 (d + 1) 0 [.ref 0, .int x1, .int x2, .int x3, .int x4, .int x5, .ref 45, .null] [] (mm_Λ, I, J) (mc1 + mc) (ms1 + ms) o σ' := by
  refine mm_aload (v := .ref 45) d15_0 rfl (Or.inl ⟨_, rfl⟩) ?_
  refine mm_ic d15_2 ci0 ?_
  refine mm_aload_n (v := .ref 0) d15_3 rfl (Or.inl ⟨_, rfl⟩) ?_
  refine mm_iload_n d15_4 rfl ?_
  refine mm_iload_n d15_5 rfl ?_
  refine mm_iload_n d15_6 rfl ?_
  refine mm_iload d15_7 rfl ?_
  refine mm_iload d15_9 rfl ?_
  refine mm_caught (i := 2) (pre := [(0, 16, 19, 13), (0, 16, 23, 15)]) (sp := 0) (ep := 16) (hp := 27) (ct := 17) (mm_callVT (as := [.int x1, .int x2, .int x3, .int x4, .int x5]) (S := [.int 0, .ref 45]) d15_11 okm16 ln15_7 im16 se16 rfl ⟨_, _, rfl⟩ rfl rfl (Nat.le_of_ble_eq_true rfl) (Nat.le_of_ble_eq_true rfl) hcall) (by decide) rfl ?_ (by decide) (by decide) (mm_in 243 (by decide +kernel) rfl) (mm_in 345 (by decide +kernel) rfl) hr
  intro y hy
  simp only [List.mem_cons, List.not_mem_nil, or_false] at hy
  rcases hy with rfl | rfl
  · exact ⟨by decide, 0, by decide, by decide, (mm_in 241 (by decide +kernel) rfl)⟩
  · exact ⟨by decide, 1, by decide, by decide, (mm_in 242 (by decide +kernel) rfl)⟩
theorem b15_14 {l : Launch} {X : Nat × (Nat → Int32)} {d : Nat} {I : Nat → Nat → Int32} {J : Nat → Nat → Int64} {x1 : Int32} {x2 : Int32} {x3 : Int32} {x4 : Int32} {x5 : Int32} {s0 : Int32} {s1 : Int32} {mc ms : Nat} {o : mm_O} {σ' : mm_S} (i15 : vp_in s1 1) (hr : mm_Run l X 15 (d + 1) 31 [.ref 0, .int x1, .int x2, .int x3, .int x4, .int x5, .ref 45, .null] [] (mm_Λ, I, (mm_set J 45 s1.toNatClampNeg (s0.toInt64))) mc ms o σ') : mm_Run l X 15 (d + 1) 14 [.ref 0, .int x1, .int x2, .int x3, .int x4, .int x5, .ref 45, .null] [.int s0, .int s1, .ref 45] (mm_Λ, I, J) mc ms o σ' := by
  refine mm_i2l d15_14 ?_
  refine mm_lastore d15_15 rfl i15 ?_
  refine mm_goto (tgt := 31) d15_16 (by decide) ?_
  exact hr
theorem b15_19 {l : Launch} {X : Nat × (Nat → Int32)} {d : Nat} {I : Nat → Nat → Int32} {J : Nat → Nat → Int64} {x1 : Int32} {x2 : Int32} {x3 : Int32} {x4 : Int32} {x5 : Int32} {mc ms : Nat}  : mm_Run l X 15 (d + 1) 19 [.ref 0, .int x1, .int x2, .int x3, .int x4, .int x5, .ref 45, .null] [.null] (mm_Λ, I, J) mc ms (.inl (some (.int 1))) (mm_Λ, I, J) := by
  refine mm_astore d15_19 (Or.inl rfl) (by decide +kernel) ?_
  refine mm_ic d15_21 ci1 ?_
  exact mm_ireturn d15_22 rfl
theorem b15_23 {l : Launch} {X : Nat × (Nat → Int32)} {d : Nat} {I : Nat → Nat → Int32} {J : Nat → Nat → Int64} {x1 : Int32} {x2 : Int32} {x3 : Int32} {x4 : Int32} {x5 : Int32} {mc ms : Nat}  : mm_Run l X 15 (d + 1) 23 [.ref 0, .int x1, .int x2, .int x3, .int x4, .int x5, .ref 45, .null] [.null] (mm_Λ, I, J) mc ms (.inl (some (.int 2))) (mm_Λ, I, J) := by
  refine mm_astore d15_23 (Or.inl rfl) (by decide +kernel) ?_
  refine mm_ic d15_25 ci2 ?_
  exact mm_ireturn d15_26 rfl
theorem b15_27 {l : Launch} {X : Nat × (Nat → Int32)} {d : Nat} {I : Nat → Nat → Int32} {J : Nat → Nat → Int64} {x1 : Int32} {x2 : Int32} {x3 : Int32} {x4 : Int32} {x5 : Int32} {mc ms : Nat}  : mm_Run l X 15 (d + 1) 27 [.ref 0, .int x1, .int x2, .int x3, .int x4, .int x5, .ref 45, .null] [.null] (mm_Λ, I, J) mc ms (.inl (some (.int 3))) (mm_Λ, I, J) := by
  refine mm_astore d15_27 (Or.inl rfl) (by decide +kernel) ?_
  refine mm_ic d15_29 ci3 ?_
  exact mm_ireturn d15_30 rfl
theorem b15_31 {l : Launch} {X : Nat × (Nat → Int32)} {d : Nat} {I : Nat → Nat → Int32} {J : Nat → Nat → Int64} {x1 : Int32} {x2 : Int32} {x3 : Int32} {x4 : Int32} {x5 : Int32} {mc ms : Nat}  : mm_Run l X 15 (d + 1) 31 [.ref 0, .int x1, .int x2, .int x3, .int x4, .int x5, .ref 45, .null] [] (mm_Λ, I, J) mc ms (.inl (some (.int 0))) (mm_Λ, I, J) := by
  refine mm_ic d15_31 ci0 ?_
  exact mm_ireturn d15_32 rfl
theorem b35_0 {l : Launch} {X : Nat × (Nat → Int32)} {d : Nat} {I : Nat → Nat → Int32} {J : Nat → Nat → Int64} {x1 : Int32} {x2 : Int32} {mc ms : Nat} {o : mm_O} {σ' : mm_S} {r : Int64} {I1 : Nat → Nat → Int32} {J1 : Nat → Nat → Int64} (hcall : mm_Call l X 36 d [.ref 0, .int x1, .int x2] (mm_Λ, I, J) 0 0 (.inl (some (.long r))) (mm_Λ, I1, J1)) (hr : mm_Run l X 35 (d + 1) 8 [.ref 0, .int x1, .int x2, .ref 45, .null] [.long r, .int 0, .ref 45] (mm_Λ, I1, J1) mc ms o σ') : mm_Run l X 35 (d + 1) 0 [.ref 0, .int x1, .int x2, .ref 45, .null] [] (mm_Λ, I, J) mc ms o σ' := by
  refine mm_aload_n (v := .ref 45) d35_0 rfl (Or.inl ⟨_, rfl⟩) ?_
  refine mm_ic d35_1 ci0 ?_
  refine mm_aload_n (v := .ref 0) d35_2 rfl (Or.inl ⟨_, rfl⟩) ?_
  refine mm_iload_n d35_3 rfl ?_
  refine mm_iload_n d35_4 rfl ?_
  exact mm_callV0 (as := [.int x1, .int x2]) (S := [.int 0, .ref 45]) d35_5 okm36 ln35_19 im36 se36 rfl ⟨_, _, rfl⟩ rfl rfl (Nat.le_of_ble_eq_true rfl) (Nat.le_of_ble_eq_true rfl) hcall hr
theorem b35_0c0 {l : Launch} {X : Nat × (Nat → Int32)} {d : Nat} {I : Nat → Nat → Int32} {J : Nat → Nat → Int64} {x1 : Int32} {x2 : Int32} {o : mm_O} {σ' : mm_S} {I1 : Nat → Nat → Int32} {J1 : Nat → Nat → Int64} {mc ms mc1 ms1 : Nat} (hcall : mm_Call l X 36 d [.ref 0, .int x1, .int x2] (mm_Λ, I, J) mc1 ms1 (.inr (mm_ex 0)) (mm_Λ, I1, J1)) (hr : mm_Run l X 35 (d + 1) 12 [.ref 0, .int x1, .int x2, .ref 45, .null] [.null] (mm_Λ, I1, J1) mc ms o σ') : mm_Run l X 35 (d + 1) 0 [.ref 0, .int x1, .int x2, .ref 45, .null] [] (mm_Λ, I, J) (mc1 + mc) (ms1 + ms) o σ' := by
  refine mm_aload_n (v := .ref 45) d35_0 rfl (Or.inl ⟨_, rfl⟩) ?_
  refine mm_ic d35_1 ci0 ?_
  refine mm_aload_n (v := .ref 0) d35_2 rfl (Or.inl ⟨_, rfl⟩) ?_
  refine mm_iload_n d35_3 rfl ?_
  refine mm_iload_n d35_4 rfl ?_
  refine mm_caught (i := 0) (pre := []) (sp := 0) (ep := 9) (hp := 12) (ct := 13) (mm_callVT (as := [.int x1, .int x2]) (S := [.int 0, .ref 45]) d35_5 okm36 ln35_19 im36 se36 rfl ⟨_, _, rfl⟩ rfl rfl (Nat.le_of_ble_eq_true rfl) (Nat.le_of_ble_eq_true rfl) hcall) (by decide) rfl ?_ (by decide) (by decide) (mm_in 241 (by decide +kernel) rfl) (mm_in 253 (by decide +kernel) rfl) hr
  intro y hy
  cases hy
theorem b35_0c1 {l : Launch} {X : Nat × (Nat → Int32)} {d : Nat} {I : Nat → Nat → Int32} {J : Nat → Nat → Int64} {x1 : Int32} {x2 : Int32} {o : mm_O} {σ' : mm_S} {I1 : Nat → Nat → Int32} {J1 : Nat → Nat → Int64} {mc ms mc1 ms1 : Nat} (hcall : mm_Call l X 36 d [.ref 0, .int x1, .int x2] (mm_Λ, I, J) mc1 ms1 (.inr (mm_ex 1)) (mm_Λ, I1, J1)) (hr : mm_Run l X 35 (d + 1) 16 [.ref 0, .int x1, .int x2, .ref 45, .null] [.null] (mm_Λ, I1, J1) mc ms o σ') : mm_Run l X 35 (d + 1) 0 [.ref 0, .int x1, .int x2, .ref 45, .null] [] (mm_Λ, I, J) (mc1 + mc) (ms1 + ms) o σ' := by
  refine mm_aload_n (v := .ref 45) d35_0 rfl (Or.inl ⟨_, rfl⟩) ?_
  refine mm_ic d35_1 ci0 ?_
  refine mm_aload_n (v := .ref 0) d35_2 rfl (Or.inl ⟨_, rfl⟩) ?_
  refine mm_iload_n d35_3 rfl ?_
  refine mm_iload_n d35_4 rfl ?_
  refine mm_caught (i := 1) (pre := [(0, 9, 12, 13)]) (sp := 0) (ep := 9) (hp := 16) (ct := 15) (mm_callVT (as := [.int x1, .int x2]) (S := [.int 0, .ref 45]) d35_5 okm36 ln35_19 im36 se36 rfl ⟨_, _, rfl⟩ rfl rfl (Nat.le_of_ble_eq_true rfl) (Nat.le_of_ble_eq_true rfl) hcall) (by decide) rfl ?_ (by decide) (by decide) (mm_in 242 (by decide +kernel) rfl) (mm_in 321 (by decide +kernel) rfl) hr
  intro y hy
  simp only [List.mem_cons, List.not_mem_nil, or_false] at hy
  rcases hy with rfl
  · exact ⟨by decide, 0, by decide, by decide, (mm_in 241 (by decide +kernel) rfl)⟩
theorem b35_8 {l : Launch} {X : Nat × (Nat → Int32)} {d : Nat} {I : Nat → Nat → Int32} {J : Nat → Nat → Int64} {x1 : Int32} {x2 : Int32} {s0 : Int64} {s1 : Int32} {mc ms : Nat} {o : mm_O} {σ' : mm_S} (i8 : vp_in s1 1) (hr : mm_Run l X 35 (d + 1) 20 [.ref 0, .int x1, .int x2, .ref 45, .null] [] (mm_Λ, I, (mm_set J 45 s1.toNatClampNeg s0)) mc ms o σ') : mm_Run l X 35 (d + 1) 8 [.ref 0, .int x1, .int x2, .ref 45, .null] [.long s0, .int s1, .ref 45] (mm_Λ, I, J) mc ms o σ' := by
  refine mm_lastore d35_8 rfl i8 ?_
  refine mm_goto (tgt := 20) d35_9 (by decide) ?_
  exact hr
theorem b35_12 {l : Launch} {X : Nat × (Nat → Int32)} {d : Nat} {I : Nat → Nat → Int32} {J : Nat → Nat → Int64} {x1 : Int32} {x2 : Int32} {mc ms : Nat}  : mm_Run l X 35 (d + 1) 12 [.ref 0, .int x1, .int x2, .ref 45, .null] [.null] (mm_Λ, I, J) mc ms (.inl (some (.int 1))) (mm_Λ, I, J) := by
  refine mm_astore d35_12 (Or.inl rfl) (by decide +kernel) ?_
  refine mm_ic d35_14 ci1 ?_
  exact mm_ireturn d35_15 rfl
theorem b35_16 {l : Launch} {X : Nat × (Nat → Int32)} {d : Nat} {I : Nat → Nat → Int32} {J : Nat → Nat → Int64} {x1 : Int32} {x2 : Int32} {mc ms : Nat}  : mm_Run l X 35 (d + 1) 16 [.ref 0, .int x1, .int x2, .ref 45, .null] [.null] (mm_Λ, I, J) mc ms (.inl (some (.int 2))) (mm_Λ, I, J) := by
  refine mm_astore d35_16 (Or.inl rfl) (by decide +kernel) ?_
  refine mm_ic d35_18 ci2 ?_
  exact mm_ireturn d35_19 rfl
theorem b35_20 {l : Launch} {X : Nat × (Nat → Int32)} {d : Nat} {I : Nat → Nat → Int32} {J : Nat → Nat → Int64} {x1 : Int32} {x2 : Int32} {mc ms : Nat}  : mm_Run l X 35 (d + 1) 20 [.ref 0, .int x1, .int x2, .ref 45, .null] [] (mm_Λ, I, J) mc ms (.inl (some (.int 0))) (mm_Λ, I, J) := by
  refine mm_ic d35_20 ci0 ?_
  exact mm_ireturn d35_21 rfl
theorem b38_0 {l : Launch} {X : Nat × (Nat → Int32)} {d : Nat} {I : Nat → Nat → Int32} {J : Nat → Nat → Int64} {x1 : Int32} {x2 : Int32} {x3 : Int64} {mc ms : Nat} {o : mm_O} {σ' : mm_S} {r : Int32} {I1 : Nat → Nat → Int32} {J1 : Nat → Nat → Int64} (hcall : mm_Call l X 39 d [.ref 0, .int x1, .int x2, .long x3] (mm_Λ, I, J) 0 0 (.inl (some (.int r))) (mm_Λ, I1, J1)) (hr : mm_Run l X 38 (d + 1) 10 [.ref 0, .int x1, .int x2, .long x3, .null, .ref 45, .null] [.int r, .int 0, .ref 45] (mm_Λ, I1, J1) mc ms o σ') : mm_Run l X 38 (d + 1) 0 [.ref 0, .int x1, .int x2, .long x3, .null, .ref 45, .null] [] (mm_Λ, I, J) mc ms o σ' := by
  refine mm_aload (v := .ref 45) d38_0 rfl (Or.inl ⟨_, rfl⟩) ?_
  refine mm_ic d38_2 ci0 ?_
  refine mm_aload_n (v := .ref 0) d38_3 rfl (Or.inl ⟨_, rfl⟩) ?_
  refine mm_iload_n d38_4 rfl ?_
  refine mm_iload_n d38_5 rfl ?_
  refine mm_lload_n d38_6 rfl ?_
  exact mm_callV0 (as := [.int x1, .int x2, .long x3]) (S := [.int 0, .ref 45]) d38_7 okm39 ln38_23 im39 se39 rfl ⟨_, _, rfl⟩ rfl rfl (Nat.le_of_ble_eq_true rfl) (Nat.le_of_ble_eq_true rfl) hcall hr
theorem b38_0c0 {l : Launch} {X : Nat × (Nat → Int32)} {d : Nat} {I : Nat → Nat → Int32} {J : Nat → Nat → Int64} {x1 : Int32} {x2 : Int32} {x3 : Int64} {o : mm_O} {σ' : mm_S} {I1 : Nat → Nat → Int32} {J1 : Nat → Nat → Int64} {mc ms mc1 ms1 : Nat} (hcall : mm_Call l X 39 d [.ref 0, .int x1, .int x2, .long x3] (mm_Λ, I, J) mc1 ms1 (.inr (mm_ex 0)) (mm_Λ, I1, J1)) (hr : mm_Run l X 38 (d + 1) 15 [.ref 0, .int x1, .int x2, .long x3, .null, .ref 45, .null] [.null] (mm_Λ, I1, J1) mc ms o σ') : mm_Run l X 38 (d + 1) 0 [.ref 0, .int x1, .int x2, .long x3, .null, .ref 45, .null] [] (mm_Λ, I, J) (mc1 + mc) (ms1 + ms) o σ' := by
  refine mm_aload (v := .ref 45) d38_0 rfl (Or.inl ⟨_, rfl⟩) ?_
  refine mm_ic d38_2 ci0 ?_
  refine mm_aload_n (v := .ref 0) d38_3 rfl (Or.inl ⟨_, rfl⟩) ?_
  refine mm_iload_n d38_4 rfl ?_
  refine mm_iload_n d38_5 rfl ?_
  refine mm_lload_n d38_6 rfl ?_
  refine mm_caught (i := 0) (pre := []) (sp := 0) (ep := 12) (hp := 15) (ct := 13) (mm_callVT (as := [.int x1, .int x2, .long x3]) (S := [.int 0, .ref 45]) d38_7 okm39 ln38_23 im39 se39 rfl ⟨_, _, rfl⟩ rfl rfl (Nat.le_of_ble_eq_true rfl) (Nat.le_of_ble_eq_true rfl) hcall) (by decide) rfl ?_ (by decide) (by decide) (mm_in 241 (by decide +kernel) rfl) (mm_in 253 (by decide +kernel) rfl) hr
  intro y hy
  cases hy
theorem b38_0c1 {l : Launch} {X : Nat × (Nat → Int32)} {d : Nat} {I : Nat → Nat → Int32} {J : Nat → Nat → Int64} {x1 : Int32} {x2 : Int32} {x3 : Int64} {o : mm_O} {σ' : mm_S} {I1 : Nat → Nat → Int32} {J1 : Nat → Nat → Int64} {mc ms mc1 ms1 : Nat} (hcall : mm_Call l X 39 d [.ref 0, .int x1, .int x2, .long x3] (mm_Λ, I, J) mc1 ms1 (.inr (mm_ex 1)) (mm_Λ, I1, J1)) (hr : mm_Run l X 38 (d + 1) 19 [.ref 0, .int x1, .int x2, .long x3, .null, .ref 45, .null] [.null] (mm_Λ, I1, J1) mc ms o σ') : mm_Run l X 38 (d + 1) 0 [.ref 0, .int x1, .int x2, .long x3, .null, .ref 45, .null] [] (mm_Λ, I, J) (mc1 + mc) (ms1 + ms) o σ' := by
  refine mm_aload (v := .ref 45) d38_0 rfl (Or.inl ⟨_, rfl⟩) ?_
  refine mm_ic d38_2 ci0 ?_
  refine mm_aload_n (v := .ref 0) d38_3 rfl (Or.inl ⟨_, rfl⟩) ?_
  refine mm_iload_n d38_4 rfl ?_
  refine mm_iload_n d38_5 rfl ?_
  refine mm_lload_n d38_6 rfl ?_
  refine mm_caught (i := 1) (pre := [(0, 12, 15, 13)]) (sp := 0) (ep := 12) (hp := 19) (ct := 15) (mm_callVT (as := [.int x1, .int x2, .long x3]) (S := [.int 0, .ref 45]) d38_7 okm39 ln38_23 im39 se39 rfl ⟨_, _, rfl⟩ rfl rfl (Nat.le_of_ble_eq_true rfl) (Nat.le_of_ble_eq_true rfl) hcall) (by decide) rfl ?_ (by decide) (by decide) (mm_in 242 (by decide +kernel) rfl) (mm_in 321 (by decide +kernel) rfl) hr
  intro y hy
  simp only [List.mem_cons, List.not_mem_nil, or_false] at hy
  rcases hy with rfl
  · exact ⟨by decide, 0, by decide, by decide, (mm_in 241 (by decide +kernel) rfl)⟩
theorem b38_0c2 {l : Launch} {X : Nat × (Nat → Int32)} {d : Nat} {I : Nat → Nat → Int32} {J : Nat → Nat → Int64} {x1 : Int32} {x2 : Int32} {x3 : Int64} {o : mm_O} {σ' : mm_S} {I1 : Nat → Nat → Int32} {J1 : Nat → Nat → Int64} {mc ms mc1 ms1 : Nat} (hcall : mm_Call l X 39 d [.ref 0, .int x1, .int x2, .long x3] (mm_Λ, I, J) mc1 ms1 (.inr (mm_ex 2)) (mm_Λ, I1, J1)) (hr : mm_Run l X 38 (d + 1) 23 [.ref 0, .int x1, .int x2, .long x3, .null, .ref 45, .null] [.null] (mm_Λ, I1, J1) mc ms o σ') : mm_Run l X 38 (d + 1) 0 [.ref 0, .int x1, .int x2, .long x3, .null, .ref 45, .null] [] (mm_Λ, I, J) (mc1 + mc) (ms1 + ms) o σ' := by
  refine mm_aload (v := .ref 45) d38_0 rfl (Or.inl ⟨_, rfl⟩) ?_
  refine mm_ic d38_2 ci0 ?_
  refine mm_aload_n (v := .ref 0) d38_3 rfl (Or.inl ⟨_, rfl⟩) ?_
  refine mm_iload_n d38_4 rfl ?_
  refine mm_iload_n d38_5 rfl ?_
  refine mm_lload_n d38_6 rfl ?_
  refine mm_caught (i := 2) (pre := [(0, 12, 15, 13), (0, 12, 19, 15)]) (sp := 0) (ep := 12) (hp := 23) (ct := 17) (mm_callVT (as := [.int x1, .int x2, .long x3]) (S := [.int 0, .ref 45]) d38_7 okm39 ln38_23 im39 se39 rfl ⟨_, _, rfl⟩ rfl rfl (Nat.le_of_ble_eq_true rfl) (Nat.le_of_ble_eq_true rfl) hcall) (by decide) rfl ?_ (by decide) (by decide) (mm_in 243 (by decide +kernel) rfl) (mm_in 345 (by decide +kernel) rfl) hr
  intro y hy
  simp only [List.mem_cons, List.not_mem_nil, or_false] at hy
  rcases hy with rfl | rfl
  · exact ⟨by decide, 0, by decide, by decide, (mm_in 241 (by decide +kernel) rfl)⟩
  · exact ⟨by decide, 1, by decide, by decide, (mm_in 242 (by decide +kernel) rfl)⟩
theorem b38_10 {l : Launch} {X : Nat × (Nat → Int32)} {d : Nat} {I : Nat → Nat → Int32} {J : Nat → Nat → Int64} {x1 : Int32} {x2 : Int32} {x3 : Int64} {s0 : Int32} {s1 : Int32} {mc ms : Nat} {o : mm_O} {σ' : mm_S} (i11 : vp_in s1 1) (hr : mm_Run l X 38 (d + 1) 27 [.ref 0, .int x1, .int x2, .long x3, .null, .ref 45, .null] [] (mm_Λ, I, (mm_set J 45 s1.toNatClampNeg (s0.toInt64))) mc ms o σ') : mm_Run l X 38 (d + 1) 10 [.ref 0, .int x1, .int x2, .long x3, .null, .ref 45, .null] [.int s0, .int s1, .ref 45] (mm_Λ, I, J) mc ms o σ' := by
  refine mm_i2l d38_10 ?_
  refine mm_lastore d38_11 rfl i11 ?_
  refine mm_goto (tgt := 27) d38_12 (by decide) ?_
  exact hr
theorem b38_15 {l : Launch} {X : Nat × (Nat → Int32)} {d : Nat} {I : Nat → Nat → Int32} {J : Nat → Nat → Int64} {x1 : Int32} {x2 : Int32} {x3 : Int64} {mc ms : Nat}  : mm_Run l X 38 (d + 1) 15 [.ref 0, .int x1, .int x2, .long x3, .null, .ref 45, .null] [.null] (mm_Λ, I, J) mc ms (.inl (some (.int 1))) (mm_Λ, I, J) := by
  refine mm_astore d38_15 (Or.inl rfl) (by decide +kernel) ?_
  refine mm_ic d38_17 ci1 ?_
  exact mm_ireturn d38_18 rfl
theorem b38_19 {l : Launch} {X : Nat × (Nat → Int32)} {d : Nat} {I : Nat → Nat → Int32} {J : Nat → Nat → Int64} {x1 : Int32} {x2 : Int32} {x3 : Int64} {mc ms : Nat}  : mm_Run l X 38 (d + 1) 19 [.ref 0, .int x1, .int x2, .long x3, .null, .ref 45, .null] [.null] (mm_Λ, I, J) mc ms (.inl (some (.int 2))) (mm_Λ, I, J) := by
  refine mm_astore d38_19 (Or.inl rfl) (by decide +kernel) ?_
  refine mm_ic d38_21 ci2 ?_
  exact mm_ireturn d38_22 rfl
theorem b38_23 {l : Launch} {X : Nat × (Nat → Int32)} {d : Nat} {I : Nat → Nat → Int32} {J : Nat → Nat → Int64} {x1 : Int32} {x2 : Int32} {x3 : Int64} {mc ms : Nat}  : mm_Run l X 38 (d + 1) 23 [.ref 0, .int x1, .int x2, .long x3, .null, .ref 45, .null] [.null] (mm_Λ, I, J) mc ms (.inl (some (.int 3))) (mm_Λ, I, J) := by
  refine mm_astore d38_23 (Or.inl rfl) (by decide +kernel) ?_
  refine mm_ic d38_25 ci3 ?_
  exact mm_ireturn d38_26 rfl
theorem b38_27 {l : Launch} {X : Nat × (Nat → Int32)} {d : Nat} {I : Nat → Nat → Int32} {J : Nat → Nat → Int64} {x1 : Int32} {x2 : Int32} {x3 : Int64} {mc ms : Nat}  : mm_Run l X 38 (d + 1) 27 [.ref 0, .int x1, .int x2, .long x3, .null, .ref 45, .null] [] (mm_Λ, I, J) mc ms (.inl (some (.int 0))) (mm_Λ, I, J) := by
  refine mm_ic d38_27 ci0 ?_
  exact mm_ireturn d38_28 rfl
theorem b52_0 {l : Launch} {X : Nat × (Nat → Int32)} {d : Nat} {I : Nat → Nat → Int32} {J : Nat → Nat → Int64} {x1 : Int32} {x2 : Int32} {mc ms : Nat} {o : mm_O} {σ' : mm_S} {r : Int64} {I1 : Nat → Nat → Int32} {J1 : Nat → Nat → Int64} (hcall : mm_Call l X 53 d [.ref 0, .int x1, .int x2] (mm_Λ, I, J) 0 0 (.inl (some (.long r))) (mm_Λ, I1, J1)) (hr : mm_Run l X 52 (d + 1) 8 [.ref 0, .int x1, .int x2, .ref 45, .null] [.long r, .int 0, .ref 45] (mm_Λ, I1, J1) mc ms o σ') : mm_Run l X 52 (d + 1) 0 [.ref 0, .int x1, .int x2, .ref 45, .null] [] (mm_Λ, I, J) mc ms o σ' := by
  refine mm_aload_n (v := .ref 45) d52_0 rfl (Or.inl ⟨_, rfl⟩) ?_
  refine mm_ic d52_1 ci0 ?_
  refine mm_aload_n (v := .ref 0) d52_2 rfl (Or.inl ⟨_, rfl⟩) ?_
  refine mm_iload_n d52_3 rfl ?_
  refine mm_iload_n d52_4 rfl ?_
  exact mm_callV0 (as := [.int x1, .int x2]) (S := [.int 0, .ref 45]) d52_5 okm53 ln52_27 im53 se53 rfl ⟨_, _, rfl⟩ rfl rfl (Nat.le_of_ble_eq_true rfl) (Nat.le_of_ble_eq_true rfl) hcall hr
theorem b52_0c0 {l : Launch} {X : Nat × (Nat → Int32)} {d : Nat} {I : Nat → Nat → Int32} {J : Nat → Nat → Int64} {x1 : Int32} {x2 : Int32} {o : mm_O} {σ' : mm_S} {I1 : Nat → Nat → Int32} {J1 : Nat → Nat → Int64} {mc ms mc1 ms1 : Nat} (hcall : mm_Call l X 53 d [.ref 0, .int x1, .int x2] (mm_Λ, I, J) mc1 ms1 (.inr (mm_ex 0)) (mm_Λ, I1, J1)) (hr : mm_Run l X 52 (d + 1) 12 [.ref 0, .int x1, .int x2, .ref 45, .null] [.null] (mm_Λ, I1, J1) mc ms o σ') : mm_Run l X 52 (d + 1) 0 [.ref 0, .int x1, .int x2, .ref 45, .null] [] (mm_Λ, I, J) (mc1 + mc) (ms1 + ms) o σ' := by
  refine mm_aload_n (v := .ref 45) d52_0 rfl (Or.inl ⟨_, rfl⟩) ?_
  refine mm_ic d52_1 ci0 ?_
  refine mm_aload_n (v := .ref 0) d52_2 rfl (Or.inl ⟨_, rfl⟩) ?_
  refine mm_iload_n d52_3 rfl ?_
  refine mm_iload_n d52_4 rfl ?_
  refine mm_caught (i := 0) (pre := []) (sp := 0) (ep := 9) (hp := 12) (ct := 13) (mm_callVT (as := [.int x1, .int x2]) (S := [.int 0, .ref 45]) d52_5 okm53 ln52_27 im53 se53 rfl ⟨_, _, rfl⟩ rfl rfl (Nat.le_of_ble_eq_true rfl) (Nat.le_of_ble_eq_true rfl) hcall) (by decide) rfl ?_ (by decide) (by decide) (mm_in 241 (by decide +kernel) rfl) (mm_in 253 (by decide +kernel) rfl) hr
  intro y hy
  cases hy
theorem b52_0c1 {l : Launch} {X : Nat × (Nat → Int32)} {d : Nat} {I : Nat → Nat → Int32} {J : Nat → Nat → Int64} {x1 : Int32} {x2 : Int32} {o : mm_O} {σ' : mm_S} {I1 : Nat → Nat → Int32} {J1 : Nat → Nat → Int64} {mc ms mc1 ms1 : Nat} (hcall : mm_Call l X 53 d [.ref 0, .int x1, .int x2] (mm_Λ, I, J) mc1 ms1 (.inr (mm_ex 1)) (mm_Λ, I1, J1)) (hr : mm_Run l X 52 (d + 1) 16 [.ref 0, .int x1, .int x2, .ref 45, .null] [.null] (mm_Λ, I1, J1) mc ms o σ') : mm_Run l X 52 (d + 1) 0 [.ref 0, .int x1, .int x2, .ref 45, .null] [] (mm_Λ, I, J) (mc1 + mc) (ms1 + ms) o σ' := by
  refine mm_aload_n (v := .ref 45) d52_0 rfl (Or.inl ⟨_, rfl⟩) ?_
  refine mm_ic d52_1 ci0 ?_
  refine mm_aload_n (v := .ref 0) d52_2 rfl (Or.inl ⟨_, rfl⟩) ?_
  refine mm_iload_n d52_3 rfl ?_
  refine mm_iload_n d52_4 rfl ?_
  refine mm_caught (i := 1) (pre := [(0, 9, 12, 13)]) (sp := 0) (ep := 9) (hp := 16) (ct := 15) (mm_callVT (as := [.int x1, .int x2]) (S := [.int 0, .ref 45]) d52_5 okm53 ln52_27 im53 se53 rfl ⟨_, _, rfl⟩ rfl rfl (Nat.le_of_ble_eq_true rfl) (Nat.le_of_ble_eq_true rfl) hcall) (by decide) rfl ?_ (by decide) (by decide) (mm_in 242 (by decide +kernel) rfl) (mm_in 321 (by decide +kernel) rfl) hr
  intro y hy
  simp only [List.mem_cons, List.not_mem_nil, or_false] at hy
  rcases hy with rfl
  · exact ⟨by decide, 0, by decide, by decide, (mm_in 241 (by decide +kernel) rfl)⟩
theorem b52_8 {l : Launch} {X : Nat × (Nat → Int32)} {d : Nat} {I : Nat → Nat → Int32} {J : Nat → Nat → Int64} {x1 : Int32} {x2 : Int32} {s0 : Int64} {s1 : Int32} {mc ms : Nat} {o : mm_O} {σ' : mm_S} (i8 : vp_in s1 1) (hr : mm_Run l X 52 (d + 1) 20 [.ref 0, .int x1, .int x2, .ref 45, .null] [] (mm_Λ, I, (mm_set J 45 s1.toNatClampNeg s0)) mc ms o σ') : mm_Run l X 52 (d + 1) 8 [.ref 0, .int x1, .int x2, .ref 45, .null] [.long s0, .int s1, .ref 45] (mm_Λ, I, J) mc ms o σ' := by
  refine mm_lastore d52_8 rfl i8 ?_
  refine mm_goto (tgt := 20) d52_9 (by decide) ?_
  exact hr
theorem b52_12 {l : Launch} {X : Nat × (Nat → Int32)} {d : Nat} {I : Nat → Nat → Int32} {J : Nat → Nat → Int64} {x1 : Int32} {x2 : Int32} {mc ms : Nat}  : mm_Run l X 52 (d + 1) 12 [.ref 0, .int x1, .int x2, .ref 45, .null] [.null] (mm_Λ, I, J) mc ms (.inl (some (.int 1))) (mm_Λ, I, J) := by
  refine mm_astore d52_12 (Or.inl rfl) (by decide +kernel) ?_
  refine mm_ic d52_14 ci1 ?_
  exact mm_ireturn d52_15 rfl
theorem b52_16 {l : Launch} {X : Nat × (Nat → Int32)} {d : Nat} {I : Nat → Nat → Int32} {J : Nat → Nat → Int64} {x1 : Int32} {x2 : Int32} {mc ms : Nat}  : mm_Run l X 52 (d + 1) 16 [.ref 0, .int x1, .int x2, .ref 45, .null] [.null] (mm_Λ, I, J) mc ms (.inl (some (.int 2))) (mm_Λ, I, J) := by
  refine mm_astore d52_16 (Or.inl rfl) (by decide +kernel) ?_
  refine mm_ic d52_18 ci2 ?_
  exact mm_ireturn d52_19 rfl
theorem b52_20 {l : Launch} {X : Nat × (Nat → Int32)} {d : Nat} {I : Nat → Nat → Int32} {J : Nat → Nat → Int64} {x1 : Int32} {x2 : Int32} {mc ms : Nat}  : mm_Run l X 52 (d + 1) 20 [.ref 0, .int x1, .int x2, .ref 45, .null] [] (mm_Λ, I, J) mc ms (.inl (some (.int 0))) (mm_Λ, I, J) := by
  refine mm_ic d52_20 ci0 ?_
  exact mm_ireturn d52_21 rfl
theorem b55_0 {l : Launch} {X : Nat × (Nat → Int32)} {d : Nat} {I : Nat → Nat → Int32} {J : Nat → Nat → Int64} {x1 : Int32} {x2 : Int32} {x3 : Int64} {mc ms : Nat} {o : mm_O} {σ' : mm_S} {r : Int32} {I1 : Nat → Nat → Int32} {J1 : Nat → Nat → Int64} (hcall : mm_Call l X 56 d [.ref 0, .int x1, .int x2, .long x3] (mm_Λ, I, J) 0 0 (.inl (some (.int r))) (mm_Λ, I1, J1)) (hr : mm_Run l X 55 (d + 1) 10 [.ref 0, .int x1, .int x2, .long x3, .null, .ref 45, .null] [.int r, .int 0, .ref 45] (mm_Λ, I1, J1) mc ms o σ') : mm_Run l X 55 (d + 1) 0 [.ref 0, .int x1, .int x2, .long x3, .null, .ref 45, .null] [] (mm_Λ, I, J) mc ms o σ' := by
  refine mm_aload (v := .ref 45) d55_0 rfl (Or.inl ⟨_, rfl⟩) ?_
  refine mm_ic d55_2 ci0 ?_
  refine mm_aload_n (v := .ref 0) d55_3 rfl (Or.inl ⟨_, rfl⟩) ?_
  refine mm_iload_n d55_4 rfl ?_
  refine mm_iload_n d55_5 rfl ?_
  refine mm_lload_n d55_6 rfl ?_
  exact mm_callV0 (as := [.int x1, .int x2, .long x3]) (S := [.int 0, .ref 45]) d55_7 okm56 ln55_30 im56 se56 rfl ⟨_, _, rfl⟩ rfl rfl (Nat.le_of_ble_eq_true rfl) (Nat.le_of_ble_eq_true rfl) hcall hr
theorem b55_0c0 {l : Launch} {X : Nat × (Nat → Int32)} {d : Nat} {I : Nat → Nat → Int32} {J : Nat → Nat → Int64} {x1 : Int32} {x2 : Int32} {x3 : Int64} {o : mm_O} {σ' : mm_S} {I1 : Nat → Nat → Int32} {J1 : Nat → Nat → Int64} {mc ms mc1 ms1 : Nat} (hcall : mm_Call l X 56 d [.ref 0, .int x1, .int x2, .long x3] (mm_Λ, I, J) mc1 ms1 (.inr (mm_ex 0)) (mm_Λ, I1, J1)) (hr : mm_Run l X 55 (d + 1) 15 [.ref 0, .int x1, .int x2, .long x3, .null, .ref 45, .null] [.null] (mm_Λ, I1, J1) mc ms o σ') : mm_Run l X 55 (d + 1) 0 [.ref 0, .int x1, .int x2, .long x3, .null, .ref 45, .null] [] (mm_Λ, I, J) (mc1 + mc) (ms1 + ms) o σ' := by
  refine mm_aload (v := .ref 45) d55_0 rfl (Or.inl ⟨_, rfl⟩) ?_
  refine mm_ic d55_2 ci0 ?_
  refine mm_aload_n (v := .ref 0) d55_3 rfl (Or.inl ⟨_, rfl⟩) ?_
  refine mm_iload_n d55_4 rfl ?_
  refine mm_iload_n d55_5 rfl ?_
  refine mm_lload_n d55_6 rfl ?_
  refine mm_caught (i := 0) (pre := []) (sp := 0) (ep := 12) (hp := 15) (ct := 13) (mm_callVT (as := [.int x1, .int x2, .long x3]) (S := [.int 0, .ref 45]) d55_7 okm56 ln55_30 im56 se56 rfl ⟨_, _, rfl⟩ rfl rfl (Nat.le_of_ble_eq_true rfl) (Nat.le_of_ble_eq_true rfl) hcall) (by decide) rfl ?_ (by decide) (by decide) (mm_in 241 (by decide +kernel) rfl) (mm_in 253 (by decide +kernel) rfl) hr
  intro y hy
  cases hy
theorem b55_0c1 {l : Launch} {X : Nat × (Nat → Int32)} {d : Nat} {I : Nat → Nat → Int32} {J : Nat → Nat → Int64} {x1 : Int32} {x2 : Int32} {x3 : Int64} {o : mm_O} {σ' : mm_S} {I1 : Nat → Nat → Int32} {J1 : Nat → Nat → Int64} {mc ms mc1 ms1 : Nat} (hcall : mm_Call l X 56 d [.ref 0, .int x1, .int x2, .long x3] (mm_Λ, I, J) mc1 ms1 (.inr (mm_ex 1)) (mm_Λ, I1, J1)) (hr : mm_Run l X 55 (d + 1) 19 [.ref 0, .int x1, .int x2, .long x3, .null, .ref 45, .null] [.null] (mm_Λ, I1, J1) mc ms o σ') : mm_Run l X 55 (d + 1) 0 [.ref 0, .int x1, .int x2, .long x3, .null, .ref 45, .null] [] (mm_Λ, I, J) (mc1 + mc) (ms1 + ms) o σ' := by
  refine mm_aload (v := .ref 45) d55_0 rfl (Or.inl ⟨_, rfl⟩) ?_
  refine mm_ic d55_2 ci0 ?_
  refine mm_aload_n (v := .ref 0) d55_3 rfl (Or.inl ⟨_, rfl⟩) ?_
  refine mm_iload_n d55_4 rfl ?_
  refine mm_iload_n d55_5 rfl ?_
  refine mm_lload_n d55_6 rfl ?_
  refine mm_caught (i := 1) (pre := [(0, 12, 15, 13)]) (sp := 0) (ep := 12) (hp := 19) (ct := 15) (mm_callVT (as := [.int x1, .int x2, .long x3]) (S := [.int 0, .ref 45]) d55_7 okm56 ln55_30 im56 se56 rfl ⟨_, _, rfl⟩ rfl rfl (Nat.le_of_ble_eq_true rfl) (Nat.le_of_ble_eq_true rfl) hcall) (by decide) rfl ?_ (by decide) (by decide) (mm_in 242 (by decide +kernel) rfl) (mm_in 321 (by decide +kernel) rfl) hr
  intro y hy
  simp only [List.mem_cons, List.not_mem_nil, or_false] at hy
  rcases hy with rfl
  · exact ⟨by decide, 0, by decide, by decide, (mm_in 241 (by decide +kernel) rfl)⟩
theorem b55_0c2 {l : Launch} {X : Nat × (Nat → Int32)} {d : Nat} {I : Nat → Nat → Int32} {J : Nat → Nat → Int64} {x1 : Int32} {x2 : Int32} {x3 : Int64} {o : mm_O} {σ' : mm_S} {I1 : Nat → Nat → Int32} {J1 : Nat → Nat → Int64} {mc ms mc1 ms1 : Nat} (hcall : mm_Call l X 56 d [.ref 0, .int x1, .int x2, .long x3] (mm_Λ, I, J) mc1 ms1 (.inr (mm_ex 2)) (mm_Λ, I1, J1)) (hr : mm_Run l X 55 (d + 1) 23 [.ref 0, .int x1, .int x2, .long x3, .null, .ref 45, .null] [.null] (mm_Λ, I1, J1) mc ms o σ') : mm_Run l X 55 (d + 1) 0 [.ref 0, .int x1, .int x2, .long x3, .null, .ref 45, .null] [] (mm_Λ, I, J) (mc1 + mc) (ms1 + ms) o σ' := by
  refine mm_aload (v := .ref 45) d55_0 rfl (Or.inl ⟨_, rfl⟩) ?_
  refine mm_ic d55_2 ci0 ?_
  refine mm_aload_n (v := .ref 0) d55_3 rfl (Or.inl ⟨_, rfl⟩) ?_
  refine mm_iload_n d55_4 rfl ?_
  refine mm_iload_n d55_5 rfl ?_
  refine mm_lload_n d55_6 rfl ?_
  refine mm_caught (i := 2) (pre := [(0, 12, 15, 13), (0, 12, 19, 15)]) (sp := 0) (ep := 12) (hp := 23) (ct := 17) (mm_callVT (as := [.int x1, .int x2, .long x3]) (S := [.int 0, .ref 45]) d55_7 okm56 ln55_30 im56 se56 rfl ⟨_, _, rfl⟩ rfl rfl (Nat.le_of_ble_eq_true rfl) (Nat.le_of_ble_eq_true rfl) hcall) (by decide) rfl ?_ (by decide) (by decide) (mm_in 243 (by decide +kernel) rfl) (mm_in 345 (by decide +kernel) rfl) hr
  intro y hy
  simp only [List.mem_cons, List.not_mem_nil, or_false] at hy
  rcases hy with rfl | rfl
  · exact ⟨by decide, 0, by decide, by decide, (mm_in 241 (by decide +kernel) rfl)⟩
  · exact ⟨by decide, 1, by decide, by decide, (mm_in 242 (by decide +kernel) rfl)⟩
theorem b55_10 {l : Launch} {X : Nat × (Nat → Int32)} {d : Nat} {I : Nat → Nat → Int32} {J : Nat → Nat → Int64} {x1 : Int32} {x2 : Int32} {x3 : Int64} {s0 : Int32} {s1 : Int32} {mc ms : Nat} {o : mm_O} {σ' : mm_S} (i11 : vp_in s1 1) (hr : mm_Run l X 55 (d + 1) 27 [.ref 0, .int x1, .int x2, .long x3, .null, .ref 45, .null] [] (mm_Λ, I, (mm_set J 45 s1.toNatClampNeg (s0.toInt64))) mc ms o σ') : mm_Run l X 55 (d + 1) 10 [.ref 0, .int x1, .int x2, .long x3, .null, .ref 45, .null] [.int s0, .int s1, .ref 45] (mm_Λ, I, J) mc ms o σ' := by
  refine mm_i2l d55_10 ?_
  refine mm_lastore d55_11 rfl i11 ?_
  refine mm_goto (tgt := 27) d55_12 (by decide) ?_
  exact hr
theorem b55_15 {l : Launch} {X : Nat × (Nat → Int32)} {d : Nat} {I : Nat → Nat → Int32} {J : Nat → Nat → Int64} {x1 : Int32} {x2 : Int32} {x3 : Int64} {mc ms : Nat}  : mm_Run l X 55 (d + 1) 15 [.ref 0, .int x1, .int x2, .long x3, .null, .ref 45, .null] [.null] (mm_Λ, I, J) mc ms (.inl (some (.int 1))) (mm_Λ, I, J) := by
  refine mm_astore d55_15 (Or.inl rfl) (by decide +kernel) ?_
  refine mm_ic d55_17 ci1 ?_
  exact mm_ireturn d55_18 rfl
theorem b55_19 {l : Launch} {X : Nat × (Nat → Int32)} {d : Nat} {I : Nat → Nat → Int32} {J : Nat → Nat → Int64} {x1 : Int32} {x2 : Int32} {x3 : Int64} {mc ms : Nat}  : mm_Run l X 55 (d + 1) 19 [.ref 0, .int x1, .int x2, .long x3, .null, .ref 45, .null] [.null] (mm_Λ, I, J) mc ms (.inl (some (.int 2))) (mm_Λ, I, J) := by
  refine mm_astore d55_19 (Or.inl rfl) (by decide +kernel) ?_
  refine mm_ic d55_21 ci2 ?_
  exact mm_ireturn d55_22 rfl
theorem b55_23 {l : Launch} {X : Nat × (Nat → Int32)} {d : Nat} {I : Nat → Nat → Int32} {J : Nat → Nat → Int64} {x1 : Int32} {x2 : Int32} {x3 : Int64} {mc ms : Nat}  : mm_Run l X 55 (d + 1) 23 [.ref 0, .int x1, .int x2, .long x3, .null, .ref 45, .null] [.null] (mm_Λ, I, J) mc ms (.inl (some (.int 3))) (mm_Λ, I, J) := by
  refine mm_astore d55_23 (Or.inl rfl) (by decide +kernel) ?_
  refine mm_ic d55_25 ci3 ?_
  exact mm_ireturn d55_26 rfl
theorem b55_27 {l : Launch} {X : Nat × (Nat → Int32)} {d : Nat} {I : Nat → Nat → Int32} {J : Nat → Nat → Int64} {x1 : Int32} {x2 : Int32} {x3 : Int64} {mc ms : Nat}  : mm_Run l X 55 (d + 1) 27 [.ref 0, .int x1, .int x2, .long x3, .null, .ref 45, .null] [] (mm_Λ, I, J) mc ms (.inl (some (.int 0))) (mm_Λ, I, J) := by
  refine mm_ic d55_27 ci0 ?_
  exact mm_ireturn d55_28 rfl
theorem b63_0 {l : Launch} {X : Nat × (Nat → Int32)} {d : Nat} {I : Nat → Nat → Int32} {J : Nat → Nat → Int64} {x1 : Int32} {x2 : Int32} {mc ms : Nat} {o : mm_O} {σ' : mm_S} {r : Int32} {I1 : Nat → Nat → Int32} {J1 : Nat → Nat → Int64} (hcall : mm_Call l X 64 d [.ref 0, .int x1, .int x2] (mm_Λ, I, J) 0 0 (.inl (some (.int r))) (mm_Λ, I1, J1)) (hr : mm_Run l X 63 (d + 1) 8 [.ref 0, .int x1, .int x2, .ref 45, .null] [.int r, .int 0, .ref 45] (mm_Λ, I1, J1) mc ms o σ') : mm_Run l X 63 (d + 1) 0 [.ref 0, .int x1, .int x2, .ref 45, .null] [] (mm_Λ, I, J) mc ms o σ' := by
  refine mm_aload_n (v := .ref 45) d63_0 rfl (Or.inl ⟨_, rfl⟩) ?_
  refine mm_ic d63_1 ci0 ?_
  refine mm_aload_n (v := .ref 0) d63_2 rfl (Or.inl ⟨_, rfl⟩) ?_
  refine mm_iload_n d63_3 rfl ?_
  refine mm_iload_n d63_4 rfl ?_
  exact mm_callV0 (as := [.int x1, .int x2]) (S := [.int 0, .ref 45]) d63_5 okm64 ln63_33 im64 se64 rfl ⟨_, _, rfl⟩ rfl rfl (Nat.le_of_ble_eq_true rfl) (Nat.le_of_ble_eq_true rfl) hcall hr
theorem b63_0c1 {l : Launch} {X : Nat × (Nat → Int32)} {d : Nat} {I : Nat → Nat → Int32} {J : Nat → Nat → Int64} {x1 : Int32} {x2 : Int32} {o : mm_O} {σ' : mm_S} {I1 : Nat → Nat → Int32} {J1 : Nat → Nat → Int64} {mc ms mc1 ms1 : Nat} (hcall : mm_Call l X 64 d [.ref 0, .int x1, .int x2] (mm_Λ, I, J) mc1 ms1 (.inr (mm_ex 1)) (mm_Λ, I1, J1)) (hr : mm_Run l X 63 (d + 1) 13 [.ref 0, .int x1, .int x2, .ref 45, .null] [.null] (mm_Λ, I1, J1) mc ms o σ') : mm_Run l X 63 (d + 1) 0 [.ref 0, .int x1, .int x2, .ref 45, .null] [] (mm_Λ, I, J) (mc1 + mc) (ms1 + ms) o σ' := by
  refine mm_aload_n (v := .ref 45) d63_0 rfl (Or.inl ⟨_, rfl⟩) ?_
  refine mm_ic d63_1 ci0 ?_
  refine mm_aload_n (v := .ref 0) d63_2 rfl (Or.inl ⟨_, rfl⟩) ?_
  refine mm_iload_n d63_3 rfl ?_
  refine mm_iload_n d63_4 rfl ?_
  refine mm_caught (i := 1) (pre := []) (sp := 0) (ep := 10) (hp := 13) (ct := 15) (mm_callVT (as := [.int x1, .int x2]) (S := [.int 0, .ref 45]) d63_5 okm64 ln63_33 im64 se64 rfl ⟨_, _, rfl⟩ rfl rfl (Nat.le_of_ble_eq_true rfl) (Nat.le_of_ble_eq_true rfl) hcall) (by decide) rfl ?_ (by decide) (by decide) (mm_in 242 (by decide +kernel) rfl) (mm_in 321 (by decide +kernel) rfl) hr
  intro y hy
  cases hy
theorem b63_0c2 {l : Launch} {X : Nat × (Nat → Int32)} {d : Nat} {I : Nat → Nat → Int32} {J : Nat → Nat → Int64} {x1 : Int32} {x2 : Int32} {o : mm_O} {σ' : mm_S} {I1 : Nat → Nat → Int32} {J1 : Nat → Nat → Int64} {mc ms mc1 ms1 : Nat} (hcall : mm_Call l X 64 d [.ref 0, .int x1, .int x2] (mm_Λ, I, J) mc1 ms1 (.inr (mm_ex 2)) (mm_Λ, I1, J1)) (hr : mm_Run l X 63 (d + 1) 17 [.ref 0, .int x1, .int x2, .ref 45, .null] [.null] (mm_Λ, I1, J1) mc ms o σ') : mm_Run l X 63 (d + 1) 0 [.ref 0, .int x1, .int x2, .ref 45, .null] [] (mm_Λ, I, J) (mc1 + mc) (ms1 + ms) o σ' := by
  refine mm_aload_n (v := .ref 45) d63_0 rfl (Or.inl ⟨_, rfl⟩) ?_
  refine mm_ic d63_1 ci0 ?_
  refine mm_aload_n (v := .ref 0) d63_2 rfl (Or.inl ⟨_, rfl⟩) ?_
  refine mm_iload_n d63_3 rfl ?_
  refine mm_iload_n d63_4 rfl ?_
  refine mm_caught (i := 2) (pre := [(0, 10, 13, 15)]) (sp := 0) (ep := 10) (hp := 17) (ct := 17) (mm_callVT (as := [.int x1, .int x2]) (S := [.int 0, .ref 45]) d63_5 okm64 ln63_33 im64 se64 rfl ⟨_, _, rfl⟩ rfl rfl (Nat.le_of_ble_eq_true rfl) (Nat.le_of_ble_eq_true rfl) hcall) (by decide) rfl ?_ (by decide) (by decide) (mm_in 243 (by decide +kernel) rfl) (mm_in 345 (by decide +kernel) rfl) hr
  intro y hy
  simp only [List.mem_cons, List.not_mem_nil, or_false] at hy
  rcases hy with rfl
  · exact ⟨by decide, 1, by decide, by decide, (mm_in 242 (by decide +kernel) rfl)⟩
theorem b63_8 {l : Launch} {X : Nat × (Nat → Int32)} {d : Nat} {I : Nat → Nat → Int32} {J : Nat → Nat → Int64} {x1 : Int32} {x2 : Int32} {s0 : Int32} {s1 : Int32} {mc ms : Nat} {o : mm_O} {σ' : mm_S} (i9 : vp_in s1 1) (hr : mm_Run l X 63 (d + 1) 21 [.ref 0, .int x1, .int x2, .ref 45, .null] [] (mm_Λ, I, (mm_set J 45 s1.toNatClampNeg (s0.toInt64))) mc ms o σ') : mm_Run l X 63 (d + 1) 8 [.ref 0, .int x1, .int x2, .ref 45, .null] [.int s0, .int s1, .ref 45] (mm_Λ, I, J) mc ms o σ' := by
  refine mm_i2l d63_8 ?_
  refine mm_lastore d63_9 rfl i9 ?_
  refine mm_goto (tgt := 21) d63_10 (by decide) ?_
  exact hr
theorem b63_13 {l : Launch} {X : Nat × (Nat → Int32)} {d : Nat} {I : Nat → Nat → Int32} {J : Nat → Nat → Int64} {x1 : Int32} {x2 : Int32} {mc ms : Nat}  : mm_Run l X 63 (d + 1) 13 [.ref 0, .int x1, .int x2, .ref 45, .null] [.null] (mm_Λ, I, J) mc ms (.inl (some (.int 1))) (mm_Λ, I, J) := by
  refine mm_astore d63_13 (Or.inl rfl) (by decide +kernel) ?_
  refine mm_ic d63_15 ci1 ?_
  exact mm_ireturn d63_16 rfl
theorem b63_17 {l : Launch} {X : Nat × (Nat → Int32)} {d : Nat} {I : Nat → Nat → Int32} {J : Nat → Nat → Int64} {x1 : Int32} {x2 : Int32} {mc ms : Nat}  : mm_Run l X 63 (d + 1) 17 [.ref 0, .int x1, .int x2, .ref 45, .null] [.null] (mm_Λ, I, J) mc ms (.inl (some (.int 2))) (mm_Λ, I, J) := by
  refine mm_astore d63_17 (Or.inl rfl) (by decide +kernel) ?_
  refine mm_ic d63_19 ci2 ?_
  exact mm_ireturn d63_20 rfl
theorem b63_21 {l : Launch} {X : Nat × (Nat → Int32)} {d : Nat} {I : Nat → Nat → Int32} {J : Nat → Nat → Int64} {x1 : Int32} {x2 : Int32} {mc ms : Nat}  : mm_Run l X 63 (d + 1) 21 [.ref 0, .int x1, .int x2, .ref 45, .null] [] (mm_Λ, I, J) mc ms (.inl (some (.int 0))) (mm_Λ, I, J) := by
  refine mm_ic d63_21 ci0 ?_
  exact mm_ireturn d63_22 rfl
theorem b70_0 {l : Launch} {X : Nat × (Nat → Int32)} {d : Nat} {I : Nat → Nat → Int32} {J : Nat → Nat → Int64} {x1 : Int32} {x2 : Int32} {mc ms : Nat} {o : mm_O} {σ' : mm_S} {r : Int32} {I1 : Nat → Nat → Int32} {J1 : Nat → Nat → Int64} (hcall : mm_Call l X 71 d [.ref 0, .int x1, .int x2] (mm_Λ, I, J) 0 0 (.inl (some (.int r))) (mm_Λ, I1, J1)) (hr : mm_Run l X 70 (d + 1) 8 [.ref 0, .int x1, .int x2, .ref 45, .null] [.int r, .int 0, .ref 45] (mm_Λ, I1, J1) mc ms o σ') : mm_Run l X 70 (d + 1) 0 [.ref 0, .int x1, .int x2, .ref 45, .null] [] (mm_Λ, I, J) mc ms o σ' := by
  refine mm_aload_n (v := .ref 45) d70_0 rfl (Or.inl ⟨_, rfl⟩) ?_
  refine mm_ic d70_1 ci0 ?_
  refine mm_aload_n (v := .ref 0) d70_2 rfl (Or.inl ⟨_, rfl⟩) ?_
  refine mm_iload_n d70_3 rfl ?_
  refine mm_iload_n d70_4 rfl ?_
  exact mm_callV0 (as := [.int x1, .int x2]) (S := [.int 0, .ref 45]) d70_5 okm71 ln70_37 im71 se71 rfl ⟨_, _, rfl⟩ rfl rfl (Nat.le_of_ble_eq_true rfl) (Nat.le_of_ble_eq_true rfl) hcall hr
theorem b70_0c1 {l : Launch} {X : Nat × (Nat → Int32)} {d : Nat} {I : Nat → Nat → Int32} {J : Nat → Nat → Int64} {x1 : Int32} {x2 : Int32} {o : mm_O} {σ' : mm_S} {I1 : Nat → Nat → Int32} {J1 : Nat → Nat → Int64} {mc ms mc1 ms1 : Nat} (hcall : mm_Call l X 71 d [.ref 0, .int x1, .int x2] (mm_Λ, I, J) mc1 ms1 (.inr (mm_ex 1)) (mm_Λ, I1, J1)) (hr : mm_Run l X 70 (d + 1) 13 [.ref 0, .int x1, .int x2, .ref 45, .null] [.null] (mm_Λ, I1, J1) mc ms o σ') : mm_Run l X 70 (d + 1) 0 [.ref 0, .int x1, .int x2, .ref 45, .null] [] (mm_Λ, I, J) (mc1 + mc) (ms1 + ms) o σ' := by
  refine mm_aload_n (v := .ref 45) d70_0 rfl (Or.inl ⟨_, rfl⟩) ?_
  refine mm_ic d70_1 ci0 ?_
  refine mm_aload_n (v := .ref 0) d70_2 rfl (Or.inl ⟨_, rfl⟩) ?_
  refine mm_iload_n d70_3 rfl ?_
  refine mm_iload_n d70_4 rfl ?_
  refine mm_caught (i := 1) (pre := []) (sp := 0) (ep := 10) (hp := 13) (ct := 15) (mm_callVT (as := [.int x1, .int x2]) (S := [.int 0, .ref 45]) d70_5 okm71 ln70_37 im71 se71 rfl ⟨_, _, rfl⟩ rfl rfl (Nat.le_of_ble_eq_true rfl) (Nat.le_of_ble_eq_true rfl) hcall) (by decide) rfl ?_ (by decide) (by decide) (mm_in 242 (by decide +kernel) rfl) (mm_in 321 (by decide +kernel) rfl) hr
  intro y hy
  cases hy
theorem b70_0c2 {l : Launch} {X : Nat × (Nat → Int32)} {d : Nat} {I : Nat → Nat → Int32} {J : Nat → Nat → Int64} {x1 : Int32} {x2 : Int32} {o : mm_O} {σ' : mm_S} {I1 : Nat → Nat → Int32} {J1 : Nat → Nat → Int64} {mc ms mc1 ms1 : Nat} (hcall : mm_Call l X 71 d [.ref 0, .int x1, .int x2] (mm_Λ, I, J) mc1 ms1 (.inr (mm_ex 2)) (mm_Λ, I1, J1)) (hr : mm_Run l X 70 (d + 1) 17 [.ref 0, .int x1, .int x2, .ref 45, .null] [.null] (mm_Λ, I1, J1) mc ms o σ') : mm_Run l X 70 (d + 1) 0 [.ref 0, .int x1, .int x2, .ref 45, .null] [] (mm_Λ, I, J) (mc1 + mc) (ms1 + ms) o σ' := by
  refine mm_aload_n (v := .ref 45) d70_0 rfl (Or.inl ⟨_, rfl⟩) ?_
  refine mm_ic d70_1 ci0 ?_
  refine mm_aload_n (v := .ref 0) d70_2 rfl (Or.inl ⟨_, rfl⟩) ?_
  refine mm_iload_n d70_3 rfl ?_
  refine mm_iload_n d70_4 rfl ?_
  refine mm_caught (i := 2) (pre := [(0, 10, 13, 15)]) (sp := 0) (ep := 10) (hp := 17) (ct := 17) (mm_callVT (as := [.int x1, .int x2]) (S := [.int 0, .ref 45]) d70_5 okm71 ln70_37 im71 se71 rfl ⟨_, _, rfl⟩ rfl rfl (Nat.le_of_ble_eq_true rfl) (Nat.le_of_ble_eq_true rfl) hcall) (by decide) rfl ?_ (by decide) (by decide) (mm_in 243 (by decide +kernel) rfl) (mm_in 345 (by decide +kernel) rfl) hr
  intro y hy
  simp only [List.mem_cons, List.not_mem_nil, or_false] at hy
  rcases hy with rfl
  · exact ⟨by decide, 1, by decide, by decide, (mm_in 242 (by decide +kernel) rfl)⟩
theorem b70_8 {l : Launch} {X : Nat × (Nat → Int32)} {d : Nat} {I : Nat → Nat → Int32} {J : Nat → Nat → Int64} {x1 : Int32} {x2 : Int32} {s0 : Int32} {s1 : Int32} {mc ms : Nat} {o : mm_O} {σ' : mm_S} (i9 : vp_in s1 1) (hr : mm_Run l X 70 (d + 1) 21 [.ref 0, .int x1, .int x2, .ref 45, .null] [] (mm_Λ, I, (mm_set J 45 s1.toNatClampNeg (s0.toInt64))) mc ms o σ') : mm_Run l X 70 (d + 1) 8 [.ref 0, .int x1, .int x2, .ref 45, .null] [.int s0, .int s1, .ref 45] (mm_Λ, I, J) mc ms o σ' := by
  refine mm_i2l d70_8 ?_
  refine mm_lastore d70_9 rfl i9 ?_
  refine mm_goto (tgt := 21) d70_10 (by decide) ?_
  exact hr
theorem b70_13 {l : Launch} {X : Nat × (Nat → Int32)} {d : Nat} {I : Nat → Nat → Int32} {J : Nat → Nat → Int64} {x1 : Int32} {x2 : Int32} {mc ms : Nat}  : mm_Run l X 70 (d + 1) 13 [.ref 0, .int x1, .int x2, .ref 45, .null] [.null] (mm_Λ, I, J) mc ms (.inl (some (.int 1))) (mm_Λ, I, J) := by
  refine mm_astore d70_13 (Or.inl rfl) (by decide +kernel) ?_
  refine mm_ic d70_15 ci1 ?_
  exact mm_ireturn d70_16 rfl
theorem b70_17 {l : Launch} {X : Nat × (Nat → Int32)} {d : Nat} {I : Nat → Nat → Int32} {J : Nat → Nat → Int64} {x1 : Int32} {x2 : Int32} {mc ms : Nat}  : mm_Run l X 70 (d + 1) 17 [.ref 0, .int x1, .int x2, .ref 45, .null] [.null] (mm_Λ, I, J) mc ms (.inl (some (.int 2))) (mm_Λ, I, J) := by
  refine mm_astore d70_17 (Or.inl rfl) (by decide +kernel) ?_
  refine mm_ic d70_19 ci2 ?_
  exact mm_ireturn d70_20 rfl
theorem b70_21 {l : Launch} {X : Nat × (Nat → Int32)} {d : Nat} {I : Nat → Nat → Int32} {J : Nat → Nat → Int64} {x1 : Int32} {x2 : Int32} {mc ms : Nat}  : mm_Run l X 70 (d + 1) 21 [.ref 0, .int x1, .int x2, .ref 45, .null] [] (mm_Λ, I, J) mc ms (.inl (some (.int 0))) (mm_Λ, I, J) := by
  refine mm_ic d70_21 ci0 ?_
  exact mm_ireturn d70_22 rfl
theorem b72_0 {l : Launch} {X : Nat × (Nat → Int32)} {d : Nat} {I : Nat → Nat → Int32} {J : Nat → Nat → Int64} {x1 : Int32} {mc ms : Nat} {o : mm_O} {σ' : mm_S} {r : Int32} {I1 : Nat → Nat → Int32} {J1 : Nat → Nat → Int64} (hcall : mm_Call l X 73 d [.ref 0, .int x1] (mm_Λ, I, J) 0 0 (.inl (some (.int r))) (mm_Λ, I1, J1)) (hr : mm_Run l X 72 (d + 1) 7 [.ref 0, .int x1, .ref 45, .null] [.int r, .int 0, .ref 45] (mm_Λ, I1, J1) mc ms o σ') : mm_Run l X 72 (d + 1) 0 [.ref 0, .int x1, .ref 45, .null] [] (mm_Λ, I, J) mc ms o σ' := by
  refine mm_aload_n (v := .ref 45) d72_0 rfl (Or.inl ⟨_, rfl⟩) ?_
  refine mm_ic d72_1 ci0 ?_
  refine mm_aload_n (v := .ref 0) d72_2 rfl (Or.inl ⟨_, rfl⟩) ?_
  refine mm_iload_n d72_3 rfl ?_
  exact mm_callV0 (as := [.int x1]) (S := [.int 0, .ref 45]) d72_4 okm73 ln72_40 im73 se73 rfl ⟨_, _, rfl⟩ rfl rfl (Nat.le_of_ble_eq_true rfl) (Nat.le_of_ble_eq_true rfl) hcall hr
theorem b72_0c1 {l : Launch} {X : Nat × (Nat → Int32)} {d : Nat} {I : Nat → Nat → Int32} {J : Nat → Nat → Int64} {x1 : Int32} {o : mm_O} {σ' : mm_S} {I1 : Nat → Nat → Int32} {J1 : Nat → Nat → Int64} {mc ms mc1 ms1 : Nat} (hcall : mm_Call l X 73 d [.ref 0, .int x1] (mm_Λ, I, J) mc1 ms1 (.inr (mm_ex 1)) (mm_Λ, I1, J1)) (hr : mm_Run l X 72 (d + 1) 12 [.ref 0, .int x1, .ref 45, .null] [.null] (mm_Λ, I1, J1) mc ms o σ') : mm_Run l X 72 (d + 1) 0 [.ref 0, .int x1, .ref 45, .null] [] (mm_Λ, I, J) (mc1 + mc) (ms1 + ms) o σ' := by
  refine mm_aload_n (v := .ref 45) d72_0 rfl (Or.inl ⟨_, rfl⟩) ?_
  refine mm_ic d72_1 ci0 ?_
  refine mm_aload_n (v := .ref 0) d72_2 rfl (Or.inl ⟨_, rfl⟩) ?_
  refine mm_iload_n d72_3 rfl ?_
  refine mm_caught (i := 1) (pre := []) (sp := 0) (ep := 9) (hp := 12) (ct := 15) (mm_callVT (as := [.int x1]) (S := [.int 0, .ref 45]) d72_4 okm73 ln72_40 im73 se73 rfl ⟨_, _, rfl⟩ rfl rfl (Nat.le_of_ble_eq_true rfl) (Nat.le_of_ble_eq_true rfl) hcall) (by decide) rfl ?_ (by decide) (by decide) (mm_in 242 (by decide +kernel) rfl) (mm_in 321 (by decide +kernel) rfl) hr
  intro y hy
  cases hy
theorem b72_0c2 {l : Launch} {X : Nat × (Nat → Int32)} {d : Nat} {I : Nat → Nat → Int32} {J : Nat → Nat → Int64} {x1 : Int32} {o : mm_O} {σ' : mm_S} {I1 : Nat → Nat → Int32} {J1 : Nat → Nat → Int64} {mc ms mc1 ms1 : Nat} (hcall : mm_Call l X 73 d [.ref 0, .int x1] (mm_Λ, I, J) mc1 ms1 (.inr (mm_ex 2)) (mm_Λ, I1, J1)) (hr : mm_Run l X 72 (d + 1) 15 [.ref 0, .int x1, .ref 45, .null] [.null] (mm_Λ, I1, J1) mc ms o σ') : mm_Run l X 72 (d + 1) 0 [.ref 0, .int x1, .ref 45, .null] [] (mm_Λ, I, J) (mc1 + mc) (ms1 + ms) o σ' := by
  refine mm_aload_n (v := .ref 45) d72_0 rfl (Or.inl ⟨_, rfl⟩) ?_
  refine mm_ic d72_1 ci0 ?_
  refine mm_aload_n (v := .ref 0) d72_2 rfl (Or.inl ⟨_, rfl⟩) ?_
  refine mm_iload_n d72_3 rfl ?_
  refine mm_caught (i := 2) (pre := [(0, 9, 12, 15)]) (sp := 0) (ep := 9) (hp := 15) (ct := 17) (mm_callVT (as := [.int x1]) (S := [.int 0, .ref 45]) d72_4 okm73 ln72_40 im73 se73 rfl ⟨_, _, rfl⟩ rfl rfl (Nat.le_of_ble_eq_true rfl) (Nat.le_of_ble_eq_true rfl) hcall) (by decide) rfl ?_ (by decide) (by decide) (mm_in 243 (by decide +kernel) rfl) (mm_in 345 (by decide +kernel) rfl) hr
  intro y hy
  simp only [List.mem_cons, List.not_mem_nil, or_false] at hy
  rcases hy with rfl
  · exact ⟨by decide, 1, by decide, by decide, (mm_in 242 (by decide +kernel) rfl)⟩
theorem b72_7 {l : Launch} {X : Nat × (Nat → Int32)} {d : Nat} {I : Nat → Nat → Int32} {J : Nat → Nat → Int64} {x1 : Int32} {s0 : Int32} {s1 : Int32} {mc ms : Nat} {o : mm_O} {σ' : mm_S} (i8 : vp_in s1 1) (hr : mm_Run l X 72 (d + 1) 18 [.ref 0, .int x1, .ref 45, .null] [] (mm_Λ, I, (mm_set J 45 s1.toNatClampNeg (s0.toInt64))) mc ms o σ') : mm_Run l X 72 (d + 1) 7 [.ref 0, .int x1, .ref 45, .null] [.int s0, .int s1, .ref 45] (mm_Λ, I, J) mc ms o σ' := by
  refine mm_i2l d72_7 ?_
  refine mm_lastore d72_8 rfl i8 ?_
  refine mm_goto (tgt := 18) d72_9 (by decide) ?_
  exact hr
theorem b72_12 {l : Launch} {X : Nat × (Nat → Int32)} {d : Nat} {I : Nat → Nat → Int32} {J : Nat → Nat → Int64} {x1 : Int32} {mc ms : Nat}  : mm_Run l X 72 (d + 1) 12 [.ref 0, .int x1, .ref 45, .null] [.null] (mm_Λ, I, J) mc ms (.inl (some (.int 1))) (mm_Λ, I, J) := by
  refine mm_astore_n d72_12 (Or.inl rfl) (by decide +kernel) ?_
  refine mm_ic d72_13 ci1 ?_
  exact mm_ireturn d72_14 rfl
theorem b72_15 {l : Launch} {X : Nat × (Nat → Int32)} {d : Nat} {I : Nat → Nat → Int32} {J : Nat → Nat → Int64} {x1 : Int32} {mc ms : Nat}  : mm_Run l X 72 (d + 1) 15 [.ref 0, .int x1, .ref 45, .null] [.null] (mm_Λ, I, J) mc ms (.inl (some (.int 2))) (mm_Λ, I, J) := by
  refine mm_astore_n d72_15 (Or.inl rfl) (by decide +kernel) ?_
  refine mm_ic d72_16 ci2 ?_
  exact mm_ireturn d72_17 rfl
theorem b72_18 {l : Launch} {X : Nat × (Nat → Int32)} {d : Nat} {I : Nat → Nat → Int32} {J : Nat → Nat → Int64} {x1 : Int32} {mc ms : Nat}  : mm_Run l X 72 (d + 1) 18 [.ref 0, .int x1, .ref 45, .null] [] (mm_Λ, I, J) mc ms (.inl (some (.int 0))) (mm_Λ, I, J) := by
  refine mm_ic d72_18 ci0 ?_
  exact mm_ireturn d72_19 rfl
theorem b77_0 {l : Launch} {X : Nat × (Nat → Int32)} {d : Nat} {I : Nat → Nat → Int32} {J : Nat → Nat → Int64} {x1 : Int32} {x2 : Int32} {mc ms : Nat} {o : mm_O} {σ' : mm_S} {r : Int32} {I1 : Nat → Nat → Int32} {J1 : Nat → Nat → Int64} (hcall : mm_Call l X 78 d [.ref 0, .int x1, .int x2] (mm_Λ, I, J) 0 0 (.inl (some (.int r))) (mm_Λ, I1, J1)) (hr : mm_Run l X 77 (d + 1) 8 [.ref 0, .int x1, .int x2, .ref 45, .null] [.int r, .int 0, .ref 45] (mm_Λ, I1, J1) mc ms o σ') : mm_Run l X 77 (d + 1) 0 [.ref 0, .int x1, .int x2, .ref 45, .null] [] (mm_Λ, I, J) mc ms o σ' := by
  refine mm_aload_n (v := .ref 45) d77_0 rfl (Or.inl ⟨_, rfl⟩) ?_
  refine mm_ic d77_1 ci0 ?_
  refine mm_aload_n (v := .ref 0) d77_2 rfl (Or.inl ⟨_, rfl⟩) ?_
  refine mm_iload_n d77_3 rfl ?_
  refine mm_iload_n d77_4 rfl ?_
  exact mm_callV0 (as := [.int x1, .int x2]) (S := [.int 0, .ref 45]) d77_5 okm78 ln77_44 im78 se78 rfl ⟨_, _, rfl⟩ rfl rfl (Nat.le_of_ble_eq_true rfl) (Nat.le_of_ble_eq_true rfl) hcall hr
theorem b77_0c0 {l : Launch} {X : Nat × (Nat → Int32)} {d : Nat} {I : Nat → Nat → Int32} {J : Nat → Nat → Int64} {x1 : Int32} {x2 : Int32} {o : mm_O} {σ' : mm_S} {I1 : Nat → Nat → Int32} {J1 : Nat → Nat → Int64} {mc ms mc1 ms1 : Nat} (hcall : mm_Call l X 78 d [.ref 0, .int x1, .int x2] (mm_Λ, I, J) mc1 ms1 (.inr (mm_ex 0)) (mm_Λ, I1, J1)) (hr : mm_Run l X 77 (d + 1) 13 [.ref 0, .int x1, .int x2, .ref 45, .null] [.null] (mm_Λ, I1, J1) mc ms o σ') : mm_Run l X 77 (d + 1) 0 [.ref 0, .int x1, .int x2, .ref 45, .null] [] (mm_Λ, I, J) (mc1 + mc) (ms1 + ms) o σ' := by
  refine mm_aload_n (v := .ref 45) d77_0 rfl (Or.inl ⟨_, rfl⟩) ?_
  refine mm_ic d77_1 ci0 ?_
  refine mm_aload_n (v := .ref 0) d77_2 rfl (Or.inl ⟨_, rfl⟩) ?_
  refine mm_iload_n d77_3 rfl ?_
  refine mm_iload_n d77_4 rfl ?_
  refine mm_caught (i := 0) (pre := []) (sp := 0) (ep := 10) (hp := 13) (ct := 13) (mm_callVT (as := [.int x1, .int x2]) (S := [.int 0, .ref 45]) d77_5 okm78 ln77_44 im78 se78 rfl ⟨_, _, rfl⟩ rfl rfl (Nat.le_of_ble_eq_true rfl) (Nat.le_of_ble_eq_true rfl) hcall) (by decide) rfl ?_ (by decide) (by decide) (mm_in 241 (by decide +kernel) rfl) (mm_in 253 (by decide +kernel) rfl) hr
  intro y hy
  cases hy
theorem b77_0c1 {l : Launch} {X : Nat × (Nat → Int32)} {d : Nat} {I : Nat → Nat → Int32} {J : Nat → Nat → Int64} {x1 : Int32} {x2 : Int32} {o : mm_O} {σ' : mm_S} {I1 : Nat → Nat → Int32} {J1 : Nat → Nat → Int64} {mc ms mc1 ms1 : Nat} (hcall : mm_Call l X 78 d [.ref 0, .int x1, .int x2] (mm_Λ, I, J) mc1 ms1 (.inr (mm_ex 1)) (mm_Λ, I1, J1)) (hr : mm_Run l X 77 (d + 1) 17 [.ref 0, .int x1, .int x2, .ref 45, .null] [.null] (mm_Λ, I1, J1) mc ms o σ') : mm_Run l X 77 (d + 1) 0 [.ref 0, .int x1, .int x2, .ref 45, .null] [] (mm_Λ, I, J) (mc1 + mc) (ms1 + ms) o σ' := by
  refine mm_aload_n (v := .ref 45) d77_0 rfl (Or.inl ⟨_, rfl⟩) ?_
  refine mm_ic d77_1 ci0 ?_
  refine mm_aload_n (v := .ref 0) d77_2 rfl (Or.inl ⟨_, rfl⟩) ?_
  refine mm_iload_n d77_3 rfl ?_
  refine mm_iload_n d77_4 rfl ?_
  refine mm_caught (i := 1) (pre := [(0, 10, 13, 13)]) (sp := 0) (ep := 10) (hp := 17) (ct := 15) (mm_callVT (as := [.int x1, .int x2]) (S := [.int 0, .ref 45]) d77_5 okm78 ln77_44 im78 se78 rfl ⟨_, _, rfl⟩ rfl rfl (Nat.le_of_ble_eq_true rfl) (Nat.le_of_ble_eq_true rfl) hcall) (by decide) rfl ?_ (by decide) (by decide) (mm_in 242 (by decide +kernel) rfl) (mm_in 321 (by decide +kernel) rfl) hr
  intro y hy
  simp only [List.mem_cons, List.not_mem_nil, or_false] at hy
  rcases hy with rfl
  · exact ⟨by decide, 0, by decide, by decide, (mm_in 241 (by decide +kernel) rfl)⟩
theorem b77_0c2 {l : Launch} {X : Nat × (Nat → Int32)} {d : Nat} {I : Nat → Nat → Int32} {J : Nat → Nat → Int64} {x1 : Int32} {x2 : Int32} {o : mm_O} {σ' : mm_S} {I1 : Nat → Nat → Int32} {J1 : Nat → Nat → Int64} {mc ms mc1 ms1 : Nat} (hcall : mm_Call l X 78 d [.ref 0, .int x1, .int x2] (mm_Λ, I, J) mc1 ms1 (.inr (mm_ex 2)) (mm_Λ, I1, J1)) (hr : mm_Run l X 77 (d + 1) 21 [.ref 0, .int x1, .int x2, .ref 45, .null] [.null] (mm_Λ, I1, J1) mc ms o σ') : mm_Run l X 77 (d + 1) 0 [.ref 0, .int x1, .int x2, .ref 45, .null] [] (mm_Λ, I, J) (mc1 + mc) (ms1 + ms) o σ' := by
  refine mm_aload_n (v := .ref 45) d77_0 rfl (Or.inl ⟨_, rfl⟩) ?_
  refine mm_ic d77_1 ci0 ?_
  refine mm_aload_n (v := .ref 0) d77_2 rfl (Or.inl ⟨_, rfl⟩) ?_
  refine mm_iload_n d77_3 rfl ?_
  refine mm_iload_n d77_4 rfl ?_
  refine mm_caught (i := 2) (pre := [(0, 10, 13, 13), (0, 10, 17, 15)]) (sp := 0) (ep := 10) (hp := 21) (ct := 17) (mm_callVT (as := [.int x1, .int x2]) (S := [.int 0, .ref 45]) d77_5 okm78 ln77_44 im78 se78 rfl ⟨_, _, rfl⟩ rfl rfl (Nat.le_of_ble_eq_true rfl) (Nat.le_of_ble_eq_true rfl) hcall) (by decide) rfl ?_ (by decide) (by decide) (mm_in 243 (by decide +kernel) rfl) (mm_in 345 (by decide +kernel) rfl) hr
  intro y hy
  simp only [List.mem_cons, List.not_mem_nil, or_false] at hy
  rcases hy with rfl | rfl
  · exact ⟨by decide, 0, by decide, by decide, (mm_in 241 (by decide +kernel) rfl)⟩
  · exact ⟨by decide, 1, by decide, by decide, (mm_in 242 (by decide +kernel) rfl)⟩
theorem b77_8 {l : Launch} {X : Nat × (Nat → Int32)} {d : Nat} {I : Nat → Nat → Int32} {J : Nat → Nat → Int64} {x1 : Int32} {x2 : Int32} {s0 : Int32} {s1 : Int32} {mc ms : Nat} {o : mm_O} {σ' : mm_S} (i9 : vp_in s1 1) (hr : mm_Run l X 77 (d + 1) 25 [.ref 0, .int x1, .int x2, .ref 45, .null] [] (mm_Λ, I, (mm_set J 45 s1.toNatClampNeg (s0.toInt64))) mc ms o σ') : mm_Run l X 77 (d + 1) 8 [.ref 0, .int x1, .int x2, .ref 45, .null] [.int s0, .int s1, .ref 45] (mm_Λ, I, J) mc ms o σ' := by
  refine mm_i2l d77_8 ?_
  refine mm_lastore d77_9 rfl i9 ?_
  refine mm_goto (tgt := 25) d77_10 (by decide) ?_
  exact hr
theorem b77_13 {l : Launch} {X : Nat × (Nat → Int32)} {d : Nat} {I : Nat → Nat → Int32} {J : Nat → Nat → Int64} {x1 : Int32} {x2 : Int32} {mc ms : Nat}  : mm_Run l X 77 (d + 1) 13 [.ref 0, .int x1, .int x2, .ref 45, .null] [.null] (mm_Λ, I, J) mc ms (.inl (some (.int 1))) (mm_Λ, I, J) := by
  refine mm_astore d77_13 (Or.inl rfl) (by decide +kernel) ?_
  refine mm_ic d77_15 ci1 ?_
  exact mm_ireturn d77_16 rfl
theorem b77_17 {l : Launch} {X : Nat × (Nat → Int32)} {d : Nat} {I : Nat → Nat → Int32} {J : Nat → Nat → Int64} {x1 : Int32} {x2 : Int32} {mc ms : Nat}  : mm_Run l X 77 (d + 1) 17 [.ref 0, .int x1, .int x2, .ref 45, .null] [.null] (mm_Λ, I, J) mc ms (.inl (some (.int 2))) (mm_Λ, I, J) := by
  refine mm_astore d77_17 (Or.inl rfl) (by decide +kernel) ?_
  refine mm_ic d77_19 ci2 ?_
  exact mm_ireturn d77_20 rfl
theorem b77_21 {l : Launch} {X : Nat × (Nat → Int32)} {d : Nat} {I : Nat → Nat → Int32} {J : Nat → Nat → Int64} {x1 : Int32} {x2 : Int32} {mc ms : Nat}  : mm_Run l X 77 (d + 1) 21 [.ref 0, .int x1, .int x2, .ref 45, .null] [.null] (mm_Λ, I, J) mc ms (.inl (some (.int 3))) (mm_Λ, I, J) := by
  refine mm_astore d77_21 (Or.inl rfl) (by decide +kernel) ?_
  refine mm_ic d77_23 ci3 ?_
  exact mm_ireturn d77_24 rfl
theorem b77_25 {l : Launch} {X : Nat × (Nat → Int32)} {d : Nat} {I : Nat → Nat → Int32} {J : Nat → Nat → Int64} {x1 : Int32} {x2 : Int32} {mc ms : Nat}  : mm_Run l X 77 (d + 1) 25 [.ref 0, .int x1, .int x2, .ref 45, .null] [] (mm_Λ, I, J) mc ms (.inl (some (.int 0))) (mm_Λ, I, J) := by
  refine mm_ic d77_25 ci0 ?_
  exact mm_ireturn d77_26 rfl
theorem b89_0 {l : Launch} {X : Nat × (Nat → Int32)} {d : Nat} {I : Nat → Nat → Int32} {J : Nat → Nat → Int64} {x1 : Int32} {x2 : Int32} {mc ms : Nat} {o : mm_O} {σ' : mm_S} {r : Int32} {I1 : Nat → Nat → Int32} {J1 : Nat → Nat → Int64} (hcall : mm_Call l X 90 d [.ref 0, .int x1, .int x2] (mm_Λ, I, J) 0 0 (.inl (some (.int r))) (mm_Λ, I1, J1)) (hr : mm_Run l X 89 (d + 1) 8 [.ref 0, .int x1, .int x2, .ref 45, .null] [.int r, .int 0, .ref 45] (mm_Λ, I1, J1) mc ms o σ') : mm_Run l X 89 (d + 1) 0 [.ref 0, .int x1, .int x2, .ref 45, .null] [] (mm_Λ, I, J) mc ms o σ' := by
  refine mm_aload_n (v := .ref 45) d89_0 rfl (Or.inl ⟨_, rfl⟩) ?_
  refine mm_ic d89_1 ci0 ?_
  refine mm_aload_n (v := .ref 0) d89_2 rfl (Or.inl ⟨_, rfl⟩) ?_
  refine mm_iload_n d89_3 rfl ?_
  refine mm_iload_n d89_4 rfl ?_
  exact mm_callV0 (as := [.int x1, .int x2]) (S := [.int 0, .ref 45]) d89_5 okm90 ln89_47 im90 se90 rfl ⟨_, _, rfl⟩ rfl rfl (Nat.le_of_ble_eq_true rfl) (Nat.le_of_ble_eq_true rfl) hcall hr
theorem b89_0c0 {l : Launch} {X : Nat × (Nat → Int32)} {d : Nat} {I : Nat → Nat → Int32} {J : Nat → Nat → Int64} {x1 : Int32} {x2 : Int32} {o : mm_O} {σ' : mm_S} {I1 : Nat → Nat → Int32} {J1 : Nat → Nat → Int64} {mc ms mc1 ms1 : Nat} (hcall : mm_Call l X 90 d [.ref 0, .int x1, .int x2] (mm_Λ, I, J) mc1 ms1 (.inr (mm_ex 0)) (mm_Λ, I1, J1)) (hr : mm_Run l X 89 (d + 1) 20 [.ref 0, .int x1, .int x2, .ref 45, .null] [.null] (mm_Λ, I1, J1) mc ms o σ') : mm_Run l X 89 (d + 1) 0 [.ref 0, .int x1, .int x2, .ref 45, .null] [] (mm_Λ, I, J) (mc1 + mc) (ms1 + ms) o σ' := by
  refine mm_aload_n (v := .ref 45) d89_0 rfl (Or.inl ⟨_, rfl⟩) ?_
  refine mm_ic d89_1 ci0 ?_
  refine mm_aload_n (v := .ref 0) d89_2 rfl (Or.inl ⟨_, rfl⟩) ?_
  refine mm_iload_n d89_3 rfl ?_
  refine mm_iload_n d89_4 rfl ?_
  refine mm_caught (i := 0) (pre := []) (sp := 0) (ep := 17) (hp := 20) (ct := 13) (mm_callVT (as := [.int x1, .int x2]) (S := [.int 0, .ref 45]) d89_5 okm90 ln89_47 im90 se90 rfl ⟨_, _, rfl⟩ rfl rfl (Nat.le_of_ble_eq_true rfl) (Nat.le_of_ble_eq_true rfl) hcall) (by decide) rfl ?_ (by decide) (by decide) (mm_in 241 (by decide +kernel) rfl) (mm_in 253 (by decide +kernel) rfl) hr
  intro y hy
  cases hy
theorem b89_0c1 {l : Launch} {X : Nat × (Nat → Int32)} {d : Nat} {I : Nat → Nat → Int32} {J : Nat → Nat → Int64} {x1 : Int32} {x2 : Int32} {o : mm_O} {σ' : mm_S} {I1 : Nat → Nat → Int32} {J1 : Nat → Nat → Int64} {mc ms mc1 ms1 : Nat} (hcall : mm_Call l X 90 d [.ref 0, .int x1, .int x2] (mm_Λ, I, J) mc1 ms1 (.inr (mm_ex 1)) (mm_Λ, I1, J1)) (hr : mm_Run l X 89 (d + 1) 24 [.ref 0, .int x1, .int x2, .ref 45, .null] [.null] (mm_Λ, I1, J1) mc ms o σ') : mm_Run l X 89 (d + 1) 0 [.ref 0, .int x1, .int x2, .ref 45, .null] [] (mm_Λ, I, J) (mc1 + mc) (ms1 + ms) o σ' := by
  refine mm_aload_n (v := .ref 45) d89_0 rfl (Or.inl ⟨_, rfl⟩) ?_
  refine mm_ic d89_1 ci0 ?_
  refine mm_aload_n (v := .ref 0) d89_2 rfl (Or.inl ⟨_, rfl⟩) ?_
  refine mm_iload_n d89_3 rfl ?_
  refine mm_iload_n d89_4 rfl ?_
  refine mm_caught (i := 1) (pre := [(0, 17, 20, 13)]) (sp := 0) (ep := 17) (hp := 24) (ct := 15) (mm_callVT (as := [.int x1, .int x2]) (S := [.int 0, .ref 45]) d89_5 okm90 ln89_47 im90 se90 rfl ⟨_, _, rfl⟩ rfl rfl (Nat.le_of_ble_eq_true rfl) (Nat.le_of_ble_eq_true rfl) hcall) (by decide) rfl ?_ (by decide) (by decide) (mm_in 242 (by decide +kernel) rfl) (mm_in 321 (by decide +kernel) rfl) hr
  intro y hy
  simp only [List.mem_cons, List.not_mem_nil, or_false] at hy
  rcases hy with rfl
  · exact ⟨by decide, 0, by decide, by decide, (mm_in 241 (by decide +kernel) rfl)⟩
theorem b89_0c2 {l : Launch} {X : Nat × (Nat → Int32)} {d : Nat} {I : Nat → Nat → Int32} {J : Nat → Nat → Int64} {x1 : Int32} {x2 : Int32} {o : mm_O} {σ' : mm_S} {I1 : Nat → Nat → Int32} {J1 : Nat → Nat → Int64} {mc ms mc1 ms1 : Nat} (hcall : mm_Call l X 90 d [.ref 0, .int x1, .int x2] (mm_Λ, I, J) mc1 ms1 (.inr (mm_ex 2)) (mm_Λ, I1, J1)) (hr : mm_Run l X 89 (d + 1) 28 [.ref 0, .int x1, .int x2, .ref 45, .null] [.null] (mm_Λ, I1, J1) mc ms o σ') : mm_Run l X 89 (d + 1) 0 [.ref 0, .int x1, .int x2, .ref 45, .null] [] (mm_Λ, I, J) (mc1 + mc) (ms1 + ms) o σ' := by
  refine mm_aload_n (v := .ref 45) d89_0 rfl (Or.inl ⟨_, rfl⟩) ?_
  refine mm_ic d89_1 ci0 ?_
  refine mm_aload_n (v := .ref 0) d89_2 rfl (Or.inl ⟨_, rfl⟩) ?_
  refine mm_iload_n d89_3 rfl ?_
  refine mm_iload_n d89_4 rfl ?_
  refine mm_caught (i := 2) (pre := [(0, 17, 20, 13), (0, 17, 24, 15)]) (sp := 0) (ep := 17) (hp := 28) (ct := 17) (mm_callVT (as := [.int x1, .int x2]) (S := [.int 0, .ref 45]) d89_5 okm90 ln89_47 im90 se90 rfl ⟨_, _, rfl⟩ rfl rfl (Nat.le_of_ble_eq_true rfl) (Nat.le_of_ble_eq_true rfl) hcall) (by decide) rfl ?_ (by decide) (by decide) (mm_in 243 (by decide +kernel) rfl) (mm_in 345 (by decide +kernel) rfl) hr
  intro y hy
  simp only [List.mem_cons, List.not_mem_nil, or_false] at hy
  rcases hy with rfl | rfl
  · exact ⟨by decide, 0, by decide, by decide, (mm_in 241 (by decide +kernel) rfl)⟩
  · exact ⟨by decide, 1, by decide, by decide, (mm_in 242 (by decide +kernel) rfl)⟩
theorem b89_8 {l : Launch} {X : Nat × (Nat → Int32)} {d : Nat} {I : Nat → Nat → Int32} {J : Nat → Nat → Int64} {x1 : Int32} {x2 : Int32} {s0 : Int32} {s1 : Int32} {mc ms : Nat} {o : mm_O} {σ' : mm_S} (kt : s0 = 0 → mm_Run l X 89 (d + 1) 15 [.ref 0, .int x1, .int x2, .ref 45, .null] [.int s1, .ref 45] (mm_Λ, I, J) mc ms o σ') (kf : ¬ (s0 = 0) → mm_Run l X 89 (d + 1) 11 [.ref 0, .int x1, .int x2, .ref 45, .null] [.int s1, .ref 45] (mm_Λ, I, J) mc ms o σ') : mm_Run l X 89 (d + 1) 8 [.ref 0, .int x1, .int x2, .ref 45, .null] [.int s0, .int s1, .ref 45] (mm_Λ, I, J) mc ms o σ' := by
  refine mm_if (tgt := 15) d89_8 (by decide) (fun h => ?_) (fun h => ?_)
  · exact kt h
  · exact kf h
theorem b89_11 {l : Launch} {X : Nat × (Nat → Int32)} {d : Nat} {I : Nat → Nat → Int32} {J : Nat → Nat → Int64} {x1 : Int32} {x2 : Int32} {s0 : Int32} {mc ms : Nat} {o : mm_O} {σ' : mm_S} (hr : mm_Run l X 89 (d + 1) 16 [.ref 0, .int x1, .int x2, .ref 45, .null] [.long 1, .int s0, .ref 45] (mm_Λ, I, J) mc ms o σ') : mm_Run l X 89 (d + 1) 11 [.ref 0, .int x1, .int x2, .ref 45, .null] [.int s0, .ref 45] (mm_Λ, I, J) mc ms o σ' := by
  refine mm_lc d89_11 lc1 ?_
  refine mm_goto (tgt := 16) d89_12 (by decide) ?_
  exact hr
theorem b89_15 {l : Launch} {X : Nat × (Nat → Int32)} {d : Nat} {I : Nat → Nat → Int32} {J : Nat → Nat → Int64} {x1 : Int32} {x2 : Int32} {s0 : Int32} {mc ms : Nat} {o : mm_O} {σ' : mm_S} (hr : mm_Run l X 89 (d + 1) 16 [.ref 0, .int x1, .int x2, .ref 45, .null] [.long 0, .int s0, .ref 45] (mm_Λ, I, J) mc ms o σ') : mm_Run l X 89 (d + 1) 15 [.ref 0, .int x1, .int x2, .ref 45, .null] [.int s0, .ref 45] (mm_Λ, I, J) mc ms o σ' := by
  refine mm_lc d89_15 lc0 ?_
  exact hr
theorem b89_16 {l : Launch} {X : Nat × (Nat → Int32)} {d : Nat} {I : Nat → Nat → Int32} {J : Nat → Nat → Int64} {x1 : Int32} {x2 : Int32} {s0 : Int64} {s1 : Int32} {mc ms : Nat} {o : mm_O} {σ' : mm_S} (i16 : vp_in s1 1) (hr : mm_Run l X 89 (d + 1) 32 [.ref 0, .int x1, .int x2, .ref 45, .null] [] (mm_Λ, I, (mm_set J 45 s1.toNatClampNeg s0)) mc ms o σ') : mm_Run l X 89 (d + 1) 16 [.ref 0, .int x1, .int x2, .ref 45, .null] [.long s0, .int s1, .ref 45] (mm_Λ, I, J) mc ms o σ' := by
  refine mm_lastore d89_16 rfl i16 ?_
  refine mm_goto (tgt := 32) d89_17 (by decide) ?_
  exact hr
theorem b89_20 {l : Launch} {X : Nat × (Nat → Int32)} {d : Nat} {I : Nat → Nat → Int32} {J : Nat → Nat → Int64} {x1 : Int32} {x2 : Int32} {mc ms : Nat}  : mm_Run l X 89 (d + 1) 20 [.ref 0, .int x1, .int x2, .ref 45, .null] [.null] (mm_Λ, I, J) mc ms (.inl (some (.int 1))) (mm_Λ, I, J) := by
  refine mm_astore d89_20 (Or.inl rfl) (by decide +kernel) ?_
  refine mm_ic d89_22 ci1 ?_
  exact mm_ireturn d89_23 rfl
theorem b89_24 {l : Launch} {X : Nat × (Nat → Int32)} {d : Nat} {I : Nat → Nat → Int32} {J : Nat → Nat → Int64} {x1 : Int32} {x2 : Int32} {mc ms : Nat}  : mm_Run l X 89 (d + 1) 24 [.ref 0, .int x1, .int x2, .ref 45, .null] [.null] (mm_Λ, I, J) mc ms (.inl (some (.int 2))) (mm_Λ, I, J) := by
  refine mm_astore d89_24 (Or.inl rfl) (by decide +kernel) ?_
  refine mm_ic d89_26 ci2 ?_
  exact mm_ireturn d89_27 rfl
theorem b89_28 {l : Launch} {X : Nat × (Nat → Int32)} {d : Nat} {I : Nat → Nat → Int32} {J : Nat → Nat → Int64} {x1 : Int32} {x2 : Int32} {mc ms : Nat}  : mm_Run l X 89 (d + 1) 28 [.ref 0, .int x1, .int x2, .ref 45, .null] [.null] (mm_Λ, I, J) mc ms (.inl (some (.int 3))) (mm_Λ, I, J) := by
  refine mm_astore d89_28 (Or.inl rfl) (by decide +kernel) ?_
  refine mm_ic d89_30 ci3 ?_
  exact mm_ireturn d89_31 rfl
theorem b89_32 {l : Launch} {X : Nat × (Nat → Int32)} {d : Nat} {I : Nat → Nat → Int32} {J : Nat → Nat → Int64} {x1 : Int32} {x2 : Int32} {mc ms : Nat}  : mm_Run l X 89 (d + 1) 32 [.ref 0, .int x1, .int x2, .ref 45, .null] [] (mm_Λ, I, J) mc ms (.inl (some (.int 0))) (mm_Λ, I, J) := by
  refine mm_ic d89_32 ci0 ?_
  exact mm_ireturn d89_33 rfl
