/-! ===== blocks ===== -/
theorem b36_0 {l : Launch} {X : Nat × (Nat → Int32)} {d : Nat} {I : Nat → Nat → Int32} {J : Nat → Nat → Int64} {x1 : Int32} {x2 : Int32} {mc ms : Nat} {o : mm_O} {σ' : mm_S} {I1 : Nat → Nat → Int32} {J1 : Nat → Nat → Int64} (hcall : mm_Call l X 17 d [.int x1] (mm_Λ, I, J) 0 0 (.inl none) (mm_Λ, I1, J1)) (hr : mm_Run l X 36 (d + 1) 4 [.ref 0, .int x1, .int x2] [] (mm_Λ, I1, J1) mc ms o σ') : mm_Run l X 36 (d + 1) 0 [.ref 0, .int x1, .int x2] [] (mm_Λ, I, J) mc ms o σ' := by
  refine mm_iload_n d36_0 rfl ?_
  exact mm_callS0 (as := [.int x1]) (S := []) d36_1 okm17 ln36_81 st17 rfl rfl (Nat.le_of_ble_eq_true rfl) (Nat.le_of_ble_eq_true rfl) hcall hr
theorem b36_0t {l : Launch} {X : Nat × (Nat → Int32)} {d : Nat} {I : Nat → Nat → Int32} {J : Nat → Nat → Int64} {x1 : Int32} {x2 : Int32} {mc ms : Nat} {E : String} {I1 : Nat → Nat → Int32} {J1 : Nat → Nat → Int64} (hcall : mm_Call l X 17 d [.int x1] (mm_Λ, I, J) mc ms (.inr E) (mm_Λ, I1, J1)) : mm_Run l X 36 (d + 1) 0 [.ref 0, .int x1, .int x2] [] (mm_Λ, I, J) mc ms (.inr E) (mm_Λ, I1, J1) := by
  refine mm_iload_n d36_0 rfl ?_
  exact mm_thrown_out (mm_callST (as := [.int x1]) (S := []) d36_1 okm17 ln36_81 st17 rfl rfl (Nat.le_of_ble_eq_true rfl) (Nat.le_of_ble_eq_true rfl) hcall) rfl
theorem b36_4 {l : Launch} {X : Nat × (Nat → Int32)} {d : Nat} {I : Nat → Nat → Int32} {J : Nat → Nat → Int64} {x1 : Int32} {x2 : Int32} {mc ms : Nat} {o : mm_O} {σ' : mm_S} {I1 : Nat → Nat → Int32} {J1 : Nat → Nat → Int64} (hcall : mm_Call l X 37 d [.int x2] (mm_Λ, I, J) 0 0 (.inl none) (mm_Λ, I1, J1)) (hr : mm_Run l X 36 (d + 1) 8 [.ref 0, .int x1, .int x2] [] (mm_Λ, I1, J1) mc ms o σ') : mm_Run l X 36 (d + 1) 4 [.ref 0, .int x1, .int x2] [] (mm_Λ, I, J) mc ms o σ' := by
  refine mm_iload_n d36_4 rfl ?_
  exact mm_callS0 (as := [.int x2]) (S := []) d36_5 okm37 ln36_113 st37 rfl rfl (Nat.le_of_ble_eq_true rfl) (Nat.le_of_ble_eq_true rfl) hcall hr
theorem b36_4t {l : Launch} {X : Nat × (Nat → Int32)} {d : Nat} {I : Nat → Nat → Int32} {J : Nat → Nat → Int64} {x1 : Int32} {x2 : Int32} {mc ms : Nat} {E : String} {I1 : Nat → Nat → Int32} {J1 : Nat → Nat → Int64} (hcall : mm_Call l X 37 d [.int x2] (mm_Λ, I, J) mc ms (.inr E) (mm_Λ, I1, J1)) : mm_Run l X 36 (d + 1) 4 [.ref 0, .int x1, .int x2] [] (mm_Λ, I, J) mc ms (.inr E) (mm_Λ, I1, J1) := by
  refine mm_iload_n d36_4 rfl ?_
  exact mm_thrown_out (mm_callST (as := [.int x2]) (S := []) d36_5 okm37 ln36_113 st37 rfl rfl (Nat.le_of_ble_eq_true rfl) (Nat.le_of_ble_eq_true rfl) hcall) rfl
theorem b36_8 {l : Launch} {X : Nat × (Nat → Int32)} {d : Nat} {I : Nat → Nat → Int32} {J : Nat → Nat → Int64} {x1 : Int32} {x2 : Int32} {mc ms : Nat} {o : mm_O} {σ' : mm_S} {r : Int64} {I1 : Nat → Nat → Int32} {J1 : Nat → Nat → Int64} (hcall : mm_Call l X 27 d [.ref 5, .int x1, .int x2] (mm_Λ, I, J) 0 0 (.inl (some (.long r))) (mm_Λ, I1, J1)) (hr : mm_Run l X 36 (d + 1) 17 [.ref 0, .int x1, .int x2] [.long r] (mm_Λ, I1, J1) mc ms o σ') : mm_Run l X 36 (d + 1) 8 [.ref 0, .int x1, .int x2] [] (mm_Λ, I, J) mc ms o σ' := by
  refine mm_aload_n (v := .ref 0) d36_8 rfl (Or.inl ⟨_, rfl⟩) ?_
  refine mm_getfield (v := .ref 5) d36_9 okc0 fk36_21 rfl rfl (by nofun) ?_
  refine mm_iload_n d36_12 rfl ?_
  refine mm_iload_n d36_13 rfl ?_
  exact mm_callV0 (as := [.int x1, .int x2]) (S := []) d36_14 okm27 ln36_116 im27 se27 rfl ⟨_, _, rfl⟩ rfl rfl (Nat.le_of_ble_eq_true rfl) (Nat.le_of_ble_eq_true rfl) hcall hr
theorem b36_17 {l : Launch} {X : Nat × (Nat → Int32)} {d : Nat} {I : Nat → Nat → Int32} {J : Nat → Nat → Int64} {x1 : Int32} {x2 : Int32} {s0 : Int64} {mc ms : Nat}  : mm_Run l X 36 (d + 1) 17 [.ref 0, .int x1, .int x2] [.long s0] (mm_Λ, I, J) mc ms (.inl (some (.long s0))) (mm_Λ, I, J) := by
  exact mm_lreturn d36_17 rfl
theorem b37_0 {l : Launch} {X : Nat × (Nat → Int32)} {d : Nat} {I : Nat → Nat → Int32} {J : Nat → Nat → Int64} {x0 : Int32} {mc ms : Nat} {o : mm_O} {σ' : mm_S} (kt : x0 < 0 → mm_Run l X 37 d 9 [.int x0] [] (mm_Λ, I, J) mc ms o σ') (kf : ¬ (x0 < 0) → mm_Run l X 37 d 4 [.int x0] [] (mm_Λ, I, J) mc ms o σ') : mm_Run l X 37 d 0 [.int x0] [] (mm_Λ, I, J) mc ms o σ' := by
  refine mm_iload_n d37_0 rfl ?_
  refine mm_if (tgt := 9) d37_1 (by decide) (fun h => ?_) (fun h => ?_)
  · exact kt h
  · exact kf h
theorem b37_4 {l : Launch} {X : Nat × (Nat → Int32)} {d : Nat} {I : Nat → Nat → Int32} {J : Nat → Nat → Int64} {x0 : Int32} {mc ms : Nat} {o : mm_O} {σ' : mm_S} (kt : x0 ≤ 4 → mm_Run l X 37 d 19 [.int x0] [] (mm_Λ, I, J) mc ms o σ') (kf : ¬ (x0 ≤ 4) → mm_Run l X 37 d 9 [.int x0] [] (mm_Λ, I, J) mc ms o σ') : mm_Run l X 37 d 4 [.int x0] [] (mm_Λ, I, J) mc ms o σ' := by
  refine mm_iload_n d37_4 rfl ?_
  refine mm_ic d37_5 ci4 ?_
  refine mm_icmp (tgt := 19) d37_6 (by decide) (fun h => ?_) (fun h => ?_)
  · exact kt h
  · exact kf h
theorem b37_9 {l : Launch} {X : Nat × (Nat → Int32)} {d : Nat} {I : Nat → Nat → Int32} {J : Nat → Nat → Int64} {x0 : Int32}   : mm_Run l X 37 d 9 [.int x0] [] (mm_Λ, I, J) 1 6 (.inr (mm_ex 1)) (mm_Λ, I, J) := by
  exact thr37_9
theorem b37_19 {l : Launch} {X : Nat × (Nat → Int32)} {d : Nat} {I : Nat → Nat → Int32} {J : Nat → Nat → Int64} {x0 : Int32} {mc ms : Nat}  : mm_Run l X 37 d 19 [.int x0] [] (mm_Λ, I, J) mc ms (.inl none) (mm_Λ, I, J) := by
  exact mm_vreturn d37_19 rfl
theorem b39_0 {l : Launch} {X : Nat × (Nat → Int32)} {d : Nat} {I : Nat → Nat → Int32} {J : Nat → Nat → Int64} {x1 : Int32} {x2 : Int32} {x3 : Int64} {mc ms : Nat} {o : mm_O} {σ' : mm_S} {I1 : Nat → Nat → Int32} {J1 : Nat → Nat → Int64} (hcall : mm_Call l X 17 d [.int x1] (mm_Λ, I, J) 0 0 (.inl none) (mm_Λ, I1, J1)) (hr : mm_Run l X 39 (d + 1) 4 [.ref 0, .int x1, .int x2, .long x3, .null] [] (mm_Λ, I1, J1) mc ms o σ') : mm_Run l X 39 (d + 1) 0 [.ref 0, .int x1, .int x2, .long x3, .null] [] (mm_Λ, I, J) mc ms o σ' := by
  refine mm_iload_n d39_0 rfl ?_
  exact mm_callS0 (as := [.int x1]) (S := []) d39_1 okm17 ln39_81 st17 rfl rfl (Nat.le_of_ble_eq_true rfl) (Nat.le_of_ble_eq_true rfl) hcall hr
theorem b39_0t {l : Launch} {X : Nat × (Nat → Int32)} {d : Nat} {I : Nat → Nat → Int32} {J : Nat → Nat → Int64} {x1 : Int32} {x2 : Int32} {x3 : Int64} {mc ms : Nat} {E : String} {I1 : Nat → Nat → Int32} {J1 : Nat → Nat → Int64} (hcall : mm_Call l X 17 d [.int x1] (mm_Λ, I, J) mc ms (.inr E) (mm_Λ, I1, J1)) : mm_Run l X 39 (d + 1) 0 [.ref 0, .int x1, .int x2, .long x3, .null] [] (mm_Λ, I, J) mc ms (.inr E) (mm_Λ, I1, J1) := by
  refine mm_iload_n d39_0 rfl ?_
  exact mm_thrown_out (mm_callST (as := [.int x1]) (S := []) d39_1 okm17 ln39_81 st17 rfl rfl (Nat.le_of_ble_eq_true rfl) (Nat.le_of_ble_eq_true rfl) hcall) rfl
theorem b39_4 {l : Launch} {X : Nat × (Nat → Int32)} {d : Nat} {I : Nat → Nat → Int32} {J : Nat → Nat → Int64} {x1 : Int32} {x2 : Int32} {x3 : Int64} {mc ms : Nat} {o : mm_O} {σ' : mm_S} {I1 : Nat → Nat → Int32} {J1 : Nat → Nat → Int64} (hcall : mm_Call l X 37 d [.int x2] (mm_Λ, I, J) 0 0 (.inl none) (mm_Λ, I1, J1)) (hr : mm_Run l X 39 (d + 1) 8 [.ref 0, .int x1, .int x2, .long x3, .null] [] (mm_Λ, I1, J1) mc ms o σ') : mm_Run l X 39 (d + 1) 4 [.ref 0, .int x1, .int x2, .long x3, .null] [] (mm_Λ, I, J) mc ms o σ' := by
  refine mm_iload_n d39_4 rfl ?_
  exact mm_callS0 (as := [.int x2]) (S := []) d39_5 okm37 ln39_113 st37 rfl rfl (Nat.le_of_ble_eq_true rfl) (Nat.le_of_ble_eq_true rfl) hcall hr
theorem b39_4t {l : Launch} {X : Nat × (Nat → Int32)} {d : Nat} {I : Nat → Nat → Int32} {J : Nat → Nat → Int64} {x1 : Int32} {x2 : Int32} {x3 : Int64} {mc ms : Nat} {E : String} {I1 : Nat → Nat → Int32} {J1 : Nat → Nat → Int64} (hcall : mm_Call l X 37 d [.int x2] (mm_Λ, I, J) mc ms (.inr E) (mm_Λ, I1, J1)) : mm_Run l X 39 (d + 1) 4 [.ref 0, .int x1, .int x2, .long x3, .null] [] (mm_Λ, I, J) mc ms (.inr E) (mm_Λ, I1, J1) := by
  refine mm_iload_n d39_4 rfl ?_
  exact mm_thrown_out (mm_callST (as := [.int x2]) (S := []) d39_5 okm37 ln39_113 st37 rfl rfl (Nat.le_of_ble_eq_true rfl) (Nat.le_of_ble_eq_true rfl) hcall) rfl
theorem b39_8 {l : Launch} {X : Nat × (Nat → Int32)} {d : Nat} {I : Nat → Nat → Int32} {J : Nat → Nat → Int64} {x1 : Int32} {x2 : Int32} {x3 : Int64} {mc ms : Nat} {o : mm_O} {σ' : mm_S} {r : Int64} {I1 : Nat → Nat → Int32} {J1 : Nat → Nat → Int64} (hcall : mm_Call l X 27 d [.ref 5, .int x1, .int x2] (mm_Λ, I, J) 0 0 (.inl (some (.long r))) (mm_Λ, I1, J1)) (hr : mm_Run l X 39 (d + 1) 18 [.ref 0, .int x1, .int x2, .long x3, .null] [.long r, .long x3] (mm_Λ, I1, J1) mc ms o σ') : mm_Run l X 39 (d + 1) 8 [.ref 0, .int x1, .int x2, .long x3, .null] [] (mm_Λ, I, J) mc ms o σ' := by
  refine mm_lload_n d39_8 rfl ?_
  refine mm_aload_n (v := .ref 0) d39_9 rfl (Or.inl ⟨_, rfl⟩) ?_
  refine mm_getfield (v := .ref 5) d39_10 okc0 fk39_21 rfl rfl (by nofun) ?_
  refine mm_iload_n d39_13 rfl ?_
  refine mm_iload_n d39_14 rfl ?_
  exact mm_callV0 (as := [.int x1, .int x2]) (S := [.long x3]) d39_15 okm27 ln39_116 im27 se27 rfl ⟨_, _, rfl⟩ rfl rfl (Nat.le_of_ble_eq_true rfl) (Nat.le_of_ble_eq_true rfl) hcall hr
theorem b39_18 {l : Launch} {X : Nat × (Nat → Int32)} {d : Nat} {I : Nat → Nat → Int32} {J : Nat → Nat → Int64} {x1 : Int32} {x2 : Int32} {x3 : Int64} {s0 : Int64} {s1 : Int64} {mc ms : Nat} {o : mm_O} {σ' : mm_S} {I1 : Nat → Nat → Int32} {J1 : Nat → Nat → Int64} (hcall : mm_Call l X 40 d [.long s1, .long s0] (mm_Λ, I, J) 0 0 (.inl none) (mm_Λ, I1, J1)) (hr : mm_Run l X 39 (d + 1) 21 [.ref 0, .int x1, .int x2, .long x3, .null] [] (mm_Λ, I1, J1) mc ms o σ') : mm_Run l X 39 (d + 1) 18 [.ref 0, .int x1, .int x2, .long x3, .null] [.long s0, .long s1] (mm_Λ, I, J) mc ms o σ' := by
  exact mm_callS0 (as := [.long s1, .long s0]) (S := []) d39_18 okm40 ln39_120 st40 rfl rfl (Nat.le_of_ble_eq_true rfl) (Nat.le_of_ble_eq_true rfl) hcall hr
theorem b39_18t {l : Launch} {X : Nat × (Nat → Int32)} {d : Nat} {I : Nat → Nat → Int32} {J : Nat → Nat → Int64} {x1 : Int32} {x2 : Int32} {x3 : Int64} {s0 : Int64} {s1 : Int64} {mc ms : Nat} {E : String} {I1 : Nat → Nat → Int32} {J1 : Nat → Nat → Int64} (hcall : mm_Call l X 40 d [.long s1, .long s0] (mm_Λ, I, J) mc ms (.inr E) (mm_Λ, I1, J1)) : mm_Run l X 39 (d + 1) 18 [.ref 0, .int x1, .int x2, .long x3, .null] [.long s0, .long s1] (mm_Λ, I, J) mc ms (.inr E) (mm_Λ, I1, J1) := by
  exact mm_thrown_out (mm_callST (as := [.long s1, .long s0]) (S := []) d39_18 okm40 ln39_120 st40 rfl rfl (Nat.le_of_ble_eq_true rfl) (Nat.le_of_ble_eq_true rfl) hcall) rfl
theorem b39_21 {l : Launch} {X : Nat × (Nat → Int32)} {d : Nat} {I : Nat → Nat → Int32} {J : Nat → Nat → Int64} {x1 : Int32} {x2 : Int32} {x3 : Int64} {mc ms : Nat} {o : mm_O} {σ' : mm_S} {I1 : Nat → Nat → Int32} {J1 : Nat → Nat → Int64} (hcall : mm_Call l X 41 d [.ref 13, .int x1, .int x2, .long x3] (mm_Λ, I, J) 0 0 (.inl none) (mm_Λ, I1, J1)) (hr : mm_Run l X 39 (d + 1) 31 [.ref 0, .int x1, .int x2, .long x3, .null] [] (mm_Λ, I1, J1) mc ms o σ') : mm_Run l X 39 (d + 1) 21 [.ref 0, .int x1, .int x2, .long x3, .null] [] (mm_Λ, I, J) mc ms o σ' := by
  refine mm_aload_n (v := .ref 0) d39_21 rfl (Or.inl ⟨_, rfl⟩) ?_
  refine mm_getfield (v := .ref 13) d39_22 okc0 fk39_44 rfl rfl (by nofun) ?_
  refine mm_iload_n d39_25 rfl ?_
  refine mm_iload_n d39_26 rfl ?_
  refine mm_lload_n d39_27 rfl ?_
  exact mm_callV0 (as := [.int x1, .int x2, .long x3]) (S := []) d39_28 okm41 ln39_124 im41 se41 rfl ⟨_, _, rfl⟩ rfl rfl (Nat.le_of_ble_eq_true rfl) (Nat.le_of_ble_eq_true rfl) hcall hr
theorem b39_31 {l : Launch} {X : Nat × (Nat → Int32)} {d : Nat} {I : Nat → Nat → Int32} {J : Nat → Nat → Int64} {x1 : Int32} {x2 : Int32} {x3 : Int64} {mc ms : Nat} {o : mm_O} {σ' : mm_S} {I1 : Nat → Nat → Int32} {J1 : Nat → Nat → Int64} (hcall : mm_Call l X 47 d [.ref 13, .ref 11] (mm_Λ, I, J) 0 0 (.inl none) (mm_Λ, I1, J1)) (hr : mm_Run l X 39 (d + 1) 42 [.ref 0, .int x1, .int x2, .long x3, .null] [] (mm_Λ, I1, J1) mc ms o σ') : mm_Run l X 39 (d + 1) 31 [.ref 0, .int x1, .int x2, .long x3, .null] [] (mm_Λ, I, J) mc ms o σ' := by
  refine mm_aload_n (v := .ref 0) d39_31 rfl (Or.inl ⟨_, rfl⟩) ?_
  refine mm_getfield (v := .ref 13) d39_32 okc0 fk39_44 rfl rfl (by nofun) ?_
  refine mm_aload_n (v := .ref 0) d39_35 rfl (Or.inl ⟨_, rfl⟩) ?_
  refine mm_getfield (v := .ref 11) d39_36 okc0 fk39_35 rfl rfl (by nofun) ?_
  exact mm_callV0 (as := [.ref 11]) (S := []) d39_39 okm47 ln39_128 im47 se47 rfl ⟨_, _, rfl⟩ rfl rfl (Nat.le_of_ble_eq_true rfl) (Nat.le_of_ble_eq_true rfl) hcall hr
theorem b39_42 {l : Launch} {X : Nat × (Nat → Int32)} {d : Nat} {I : Nat → Nat → Int32} {J : Nat → Nat → Int64} {x1 : Int32} {x2 : Int32} {x3 : Int64} {mc ms : Nat} {o : mm_O} {σ' : mm_S} {r : Int32} {I1 : Nat → Nat → Int32} {J1 : Nat → Nat → Int64} (hcall : mm_Call l X 51 d [.ref 11] (mm_Λ, I, J) 0 0 (.inl (some (.int r))) (mm_Λ, I1, J1)) (hr : mm_Run l X 39 (d + 1) 49 [.ref 0, .int x1, .int x2, .long x3, .null] [.int r] (mm_Λ, I1, J1) mc ms o σ') : mm_Run l X 39 (d + 1) 42 [.ref 0, .int x1, .int x2, .long x3, .null] [] (mm_Λ, I, J) mc ms o σ' := by
  refine mm_aload_n (v := .ref 0) d39_42 rfl (Or.inl ⟨_, rfl⟩) ?_
  refine mm_getfield (v := .ref 11) d39_43 okc0 fk39_35 rfl rfl (by nofun) ?_
  exact mm_callV0 (as := []) (S := []) d39_46 okm51 ln39_132 im51 se51 rfl ⟨_, _, rfl⟩ rfl rfl (Nat.le_of_ble_eq_true rfl) (Nat.le_of_ble_eq_true rfl) hcall hr
theorem b39_49 {l : Launch} {X : Nat × (Nat → Int32)} {d : Nat} {I : Nat → Nat → Int32} {J : Nat → Nat → Int64} {x1 : Int32} {x2 : Int32} {x3 : Int64} {s0 : Int32} {mc ms : Nat}  : mm_Run l X 39 (d + 1) 49 [.ref 0, .int x1, .int x2, .long x3, .null] [.int s0] (mm_Λ, I, J) mc ms (.inl (some (.int s0))) (mm_Λ, I, J) := by
  exact mm_ireturn d39_49 rfl
theorem b40_0 {l : Launch} {X : Nat × (Nat → Int32)} {d : Nat} {I : Nat → Nat → Int32} {J : Nat → Nat → Int64} {x0 : Int64} {x2 : Int64} {mc ms : Nat} {o : mm_O} {σ' : mm_S} (kt : (lg_cmp x0 0) < 0 → mm_Run l X 40 d 12 [.long x0, .null, .long x2, .null] [] (mm_Λ, I, J) mc ms o σ') (kf : ¬ ((lg_cmp x0 0) < 0) → mm_Run l X 40 d 6 [.long x0, .null, .long x2, .null] [] (mm_Λ, I, J) mc ms o σ') : mm_Run l X 40 d 0 [.long x0, .null, .long x2, .null] [] (mm_Λ, I, J) mc ms o σ' := by
  refine mm_lload_n d40_0 rfl ?_
  refine mm_lc d40_1 lc0 ?_
  refine mm_lcmp d40_2 ?_
  refine mm_if (tgt := 12) d40_3 (by decide) (fun h => ?_) (fun h => ?_)
  · exact kt h
  · exact kf h
theorem b40_6 {l : Launch} {X : Nat × (Nat → Int32)} {d : Nat} {I : Nat → Nat → Int32} {J : Nat → Nat → Int64} {x0 : Int64} {x2 : Int64} {mc ms : Nat} {o : mm_O} {σ' : mm_S} (kt : (lg_cmp x0 x2) < 0 → mm_Run l X 40 d 22 [.long x0, .null, .long x2, .null] [] (mm_Λ, I, J) mc ms o σ') (kf : ¬ ((lg_cmp x0 x2) < 0) → mm_Run l X 40 d 12 [.long x0, .null, .long x2, .null] [] (mm_Λ, I, J) mc ms o σ') : mm_Run l X 40 d 6 [.long x0, .null, .long x2, .null] [] (mm_Λ, I, J) mc ms o σ' := by
  refine mm_lload_n d40_6 rfl ?_
  refine mm_lload_n d40_7 rfl ?_
  refine mm_lcmp d40_8 ?_
  refine mm_if (tgt := 22) d40_9 (by decide) (fun h => ?_) (fun h => ?_)
  · exact kt h
  · exact kf h
theorem b40_12 {l : Launch} {X : Nat × (Nat → Int32)} {d : Nat} {I : Nat → Nat → Int32} {J : Nat → Nat → Int64} {x0 : Int64} {x2 : Int64}   : mm_Run l X 40 d 12 [.long x0, .null, .long x2, .null] [] (mm_Λ, I, J) 1 6 (.inr (mm_ex 2)) (mm_Λ, I, J) := by
  exact thr40_12
theorem b40_22 {l : Launch} {X : Nat × (Nat → Int32)} {d : Nat} {I : Nat → Nat → Int32} {J : Nat → Nat → Int64} {x0 : Int64} {x2 : Int64} {mc ms : Nat}  : mm_Run l X 40 d 22 [.long x0, .null, .long x2, .null] [] (mm_Λ, I, J) mc ms (.inl none) (mm_Λ, I, J) := by
  exact mm_vreturn d40_22 rfl
theorem b41_0 {l : Launch} {X : Nat × (Nat → Int32)} {d : Nat} {I : Nat → Nat → Int32} {J : Nat → Nat → Int64} {x1 : Int32} {x2 : Int32} {x3 : Int64} {mc ms : Nat} {o : mm_O} {σ' : mm_S} {I1 : Nat → Nat → Int32} {J1 : Nat → Nat → Int64} (hcall : mm_Call l X 42 d [.ref 13, .int 0, .int x2, .long x3] (mm_Λ, (mm_set I 14 0 x1), J) 0 0 (.inl none) (mm_Λ, I1, J1)) (hr : mm_Run l X 41 (d + 1) 14 [.ref 13, .int x1, .int x2, .long x3, .null] [] (mm_Λ, I1, J1) mc ms o σ') : mm_Run l X 41 (d + 1) 0 [.ref 13, .int x1, .int x2, .long x3, .null] [] (mm_Λ, I, J) mc ms o σ' := by
  refine mm_aload_n (v := .ref 13) d41_0 rfl (Or.inl ⟨_, rfl⟩) ?_
  refine mm_getfield (v := .ref 14) d41_1 okc5 fk41_9 rfl rfl (by nofun) ?_
  refine mm_ic d41_4 ci0 ?_
  refine mm_iload_n d41_5 rfl ?_
  refine mm_iastore d41_6 rfl (by unfold vp_in; decide) ?_
  refine mm_aload_n (v := .ref 13) d41_7 rfl (Or.inl ⟨_, rfl⟩) ?_
  refine mm_ic d41_8 ci0 ?_
  refine mm_iload_n d41_9 rfl ?_
  refine mm_lload_n d41_10 rfl ?_
  exact mm_callV0 (as := [.int 0, .int x2, .long x3]) (S := []) d41_11 okm42 ln41_33 im42 se42 rfl ⟨_, _, rfl⟩ rfl rfl (Nat.le_of_ble_eq_true rfl) (Nat.le_of_ble_eq_true rfl) hcall hr
theorem b41_14 {l : Launch} {X : Nat × (Nat → Int32)} {d : Nat} {I : Nat → Nat → Int32} {J : Nat → Nat → Int64} {x1 : Int32} {x2 : Int32} {x3 : Int64} {mc ms : Nat}  : mm_Run l X 41 (d + 1) 14 [.ref 13, .int x1, .int x2, .long x3, .null] [] (mm_Λ, I, J) mc ms (.inl none) (mm_Λ, I, J) := by
  exact mm_vreturn d41_14 rfl
theorem b42_0 {l : Launch} {X : Nat × (Nat → Int32)} {d : Nat} {I : Nat → Nat → Int32} {J : Nat → Nat → Int64} {x1 : Int32} {x2 : Int32} {x3 : Int64} {mc ms : Nat} {o : mm_O} {σ' : mm_S} (i5 : vp_in x1 256) (hr : mm_Run l X 42 (d + 1) 14 [.ref 13, .int x1, .int x2, .long x3, .null, .int (I 14 x1.toNatClampNeg), .long x3, .null, .int 0, .null, .null, .null, .null] [] (mm_Λ, I, J) mc ms o σ') : mm_Run l X 42 (d + 1) 0 [.ref 13, .int x1, .int x2, .long x3, .null, .null, .null, .null, .null, .null, .null, .null, .null] [] (mm_Λ, I, J) mc ms o σ' := by
  refine mm_aload_n (v := .ref 13) d42_0 rfl (Or.inl ⟨_, rfl⟩) ?_
  refine mm_getfield (v := .ref 14) d42_1 okc5 fk42_9 rfl rfl (by nofun) ?_
  refine mm_iload_n d42_4 rfl ?_
  refine mm_iaload d42_5 rfl i5 ?_
  refine mm_istore d42_6 (by decide +kernel) ?_
  refine mm_lload_n d42_8 rfl ?_
  refine mm_lstore d42_9 (by decide +kernel) ?_
  refine mm_ic d42_11 ci0 ?_
  refine mm_istore d42_12 (by decide +kernel) ?_
  exact hr
theorem b42_14 {l : Launch} {X : Nat × (Nat → Int32)} {d : Nat} {I : Nat → Nat → Int32} {J : Nat → Nat → Int64} {x1 : Int32} {x2 : Int32} {x3 : Int64} {x5 : Int32} {x6 : Int64} {x8 : Int32} {mc ms : Nat} {o : mm_O} {σ' : mm_S} {r : Int32} {I1 : Nat → Nat → Int32} {J1 : Nat → Nat → Int64} (hcall : mm_Call l X 19 d [.ref 1, .int x5] (mm_Λ, I, J) 0 0 (.inl (some (.int r))) (mm_Λ, I1, J1)) (hr : mm_Run l X 42 (d + 1) 25 [.ref 13, .int x1, .int x2, .long x3, .null, .int x5, .long x6, .null, .int x8, .null, .null, .null, .null] [.int r, .int x8] (mm_Λ, I1, J1) mc ms o σ') : mm_Run l X 42 (d + 1) 14 [.ref 13, .int x1, .int x2, .long x3, .null, .int x5, .long x6, .null, .int x8, .null, .null, .null, .null] [] (mm_Λ, I, J) mc ms o σ' := by
  refine mm_iload d42_14 rfl ?_
  refine mm_aload_n (v := .ref 13) d42_16 rfl (Or.inl ⟨_, rfl⟩) ?_
  refine mm_getfield (v := .ref 1) d42_17 okc5 fk42_21 rfl rfl (by nofun) ?_
  refine mm_iload d42_20 rfl ?_
  exact mm_callV0 (as := [.int x5]) (S := [.int x8]) d42_22 okm19 ln42_37 im19 se19 rfl ⟨_, _, rfl⟩ rfl rfl (Nat.le_of_ble_eq_true rfl) (Nat.le_of_ble_eq_true rfl) hcall hr
theorem b42_25 {l : Launch} {X : Nat × (Nat → Int32)} {d : Nat} {I : Nat → Nat → Int32} {J : Nat → Nat → Int64} {x1 : Int32} {x2 : Int32} {x3 : Int64} {x5 : Int32} {x6 : Int64} {x8 : Int32} {s0 : Int32} {s1 : Int32} {mc ms : Nat} {o : mm_O} {σ' : mm_S} (kt : (s0 - 1) ≤ s1 → mm_Run l X 42 (d + 1) 77 [.ref 13, .int x1, .int x2, .long x3, .null, .int x5, .long x6, .null, .int x8, .null, .null, .null, .null] [] (mm_Λ, I, J) mc ms o σ') (kf : ¬ ((s0 - 1) ≤ s1) → mm_Run l X 42 (d + 1) 30 [.ref 13, .int x1, .int x2, .long x3, .null, .int x5, .long x6, .null, .int x8, .null, .null, .null, .null] [] (mm_Λ, I, J) mc ms o σ') : mm_Run l X 42 (d + 1) 25 [.ref 13, .int x1, .int x2, .long x3, .null, .int x5, .long x6, .null, .int x8, .null, .null, .null, .null] [.int s0, .int s1] (mm_Λ, I, J) mc ms o σ' := by
  refine mm_ic d42_25 ci1 ?_
  refine mm_isub d42_26 ?_
  refine mm_icmp (tgt := 77) d42_27 (by decide) (fun h => ?_) (fun h => ?_)
  · exact kt h
  · exact kf h
theorem b42_30 {l : Launch} {X : Nat × (Nat → Int32)} {d : Nat} {I : Nat → Nat → Int32} {J : Nat → Nat → Int64} {x1 : Int32} {x2 : Int32} {x3 : Int64} {x5 : Int32} {x6 : Int64} {x8 : Int32} {mc ms : Nat} {o : mm_O} {σ' : mm_S} {r : Int32} {I1 : Nat → Nat → Int32} {J1 : Nat → Nat → Int64} (hcall : mm_Call l X 21 d [.int x5, .int x8] (mm_Λ, I, J) 0 0 (.inl (some (.int r))) (mm_Λ, I1, J1)) (hr : mm_Run l X 42 (d + 1) 43 [.ref 13, .int x1, .int x2, .long x3, .null, .int x5, .long x6, .null, .int x8, .null, .null, .null, .null] [.int r, .ref 5, .long x6] (mm_Λ, I1, J1) mc ms o σ') : mm_Run l X 42 (d + 1) 30 [.ref 13, .int x1, .int x2, .long x3, .null, .int x5, .long x6, .null, .int x8, .null, .null, .null, .null] [] (mm_Λ, I, J) mc ms o σ' := by
  refine mm_lload d42_30 rfl ?_
  refine mm_aload_n (v := .ref 13) d42_32 rfl (Or.inl ⟨_, rfl⟩) ?_
  refine mm_getfield (v := .ref 5) d42_33 okc5 fk42_25 rfl rfl (by nofun) ?_
  refine mm_iload d42_36 rfl ?_
  refine mm_iload d42_38 rfl ?_
  exact mm_callS0 (as := [.int x5, .int x8]) (S := [.ref 5, .long x6]) d42_40 okm21 ln42_43 st21 rfl rfl (Nat.le_of_ble_eq_true rfl) (Nat.le_of_ble_eq_true rfl) hcall hr
theorem b42_43 {l : Launch} {X : Nat × (Nat → Int32)} {d : Nat} {I : Nat → Nat → Int32} {J : Nat → Nat → Int64} {x1 : Int32} {x2 : Int32} {x3 : Int64} {x5 : Int32} {x6 : Int64} {x8 : Int32} {s0 : Int32} {s2 : Int64} {mc ms : Nat} {o : mm_O} {σ' : mm_S} {r : Int64} {I1 : Nat → Nat → Int32} {J1 : Nat → Nat → Int64} (hcall : mm_Call l X 43 d [.ref 5, .int s0, .int x2] (mm_Λ, I, J) 0 0 (.inl (some (.long r))) (mm_Λ, I1, J1)) (hr : mm_Run l X 42 (d + 1) 47 [.ref 13, .int x1, .int x2, .long x3, .null, .int x5, .long x6, .null, .int x8, .null, .null, .null, .null] [.long r, .long s2] (mm_Λ, I1, J1) mc ms o σ') : mm_Run l X 42 (d + 1) 43 [.ref 13, .int x1, .int x2, .long x3, .null, .int x5, .long x6, .null, .int x8, .null, .null, .null, .null] [.int s0, .ref 5, .long s2] (mm_Λ, I, J) mc ms o σ' := by
  refine mm_iload_n d42_43 rfl ?_
  exact mm_callV0 (as := [.int s0, .int x2]) (S := [.long s2]) d42_44 okm43 ln42_47 im43 se43 rfl ⟨_, _, rfl⟩ rfl rfl (Nat.le_of_ble_eq_true rfl) (Nat.le_of_ble_eq_true rfl) hcall hr
theorem b42_47 {l : Launch} {X : Nat × (Nat → Int32)} {d : Nat} {I : Nat → Nat → Int32} {J : Nat → Nat → Int64} {x1 : Int32} {x2 : Int32} {x3 : Int64} {x5 : Int32} {x6 : Int64} {x8 : Int32} {s0 : Int64} {s1 : Int64} {mc ms : Nat} {o : mm_O} {σ' : mm_S} (kt : (lg_cmp s1 s0) < 0 → mm_Run l X 42 (d + 1) 77 [.ref 13, .int x1, .int x2, .long x3, .null, .int x5, .long x6, .null, .int x8, .null, .null, .null, .null] [] (mm_Λ, I, J) mc ms o σ') (kf : ¬ ((lg_cmp s1 s0) < 0) → mm_Run l X 42 (d + 1) 51 [.ref 13, .int x1, .int x2, .long x3, .null, .int x5, .long x6, .null, .int x8, .null, .null, .null, .null] [] (mm_Λ, I, J) mc ms o σ') : mm_Run l X 42 (d + 1) 47 [.ref 13, .int x1, .int x2, .long x3, .null, .int x5, .long x6, .null, .int x8, .null, .null, .null, .null] [.long s0, .long s1] (mm_Λ, I, J) mc ms o σ' := by
  refine mm_lcmp d42_47 ?_
  refine mm_if (tgt := 77) d42_48 (by decide) (fun h => ?_) (fun h => ?_)
  · exact kt h
  · exact kf h
theorem b42_51 {l : Launch} {X : Nat × (Nat → Int32)} {d : Nat} {I : Nat → Nat → Int32} {J : Nat → Nat → Int64} {x1 : Int32} {x2 : Int32} {x3 : Int64} {x5 : Int32} {x6 : Int64} {x8 : Int32} {mc ms : Nat} {o : mm_O} {σ' : mm_S} {r : Int32} {I1 : Nat → Nat → Int32} {J1 : Nat → Nat → Int64} (hcall : mm_Call l X 21 d [.int x5, .int x8] (mm_Λ, I, J) 0 0 (.inl (some (.int r))) (mm_Λ, I1, J1)) (hr : mm_Run l X 42 (d + 1) 64 [.ref 13, .int x1, .int x2, .long x3, .null, .int x5, .long x6, .null, .int x8, .null, .null, .null, .null] [.int r, .ref 5, .long x6] (mm_Λ, I1, J1) mc ms o σ') : mm_Run l X 42 (d + 1) 51 [.ref 13, .int x1, .int x2, .long x3, .null, .int x5, .long x6, .null, .int x8, .null, .null, .null, .null] [] (mm_Λ, I, J) mc ms o σ' := by
  refine mm_lload d42_51 rfl ?_
  refine mm_aload_n (v := .ref 13) d42_53 rfl (Or.inl ⟨_, rfl⟩) ?_
  refine mm_getfield (v := .ref 5) d42_54 okc5 fk42_25 rfl rfl (by nofun) ?_
  refine mm_iload d42_57 rfl ?_
  refine mm_iload d42_59 rfl ?_
  exact mm_callS0 (as := [.int x5, .int x8]) (S := [.ref 5, .long x6]) d42_61 okm21 ln42_43 st21 rfl rfl (Nat.le_of_ble_eq_true rfl) (Nat.le_of_ble_eq_true rfl) hcall hr
theorem b42_64 {l : Launch} {X : Nat × (Nat → Int32)} {d : Nat} {I : Nat → Nat → Int32} {J : Nat → Nat → Int64} {x1 : Int32} {x2 : Int32} {x3 : Int64} {x5 : Int32} {x6 : Int64} {x8 : Int32} {s0 : Int32} {s2 : Int64} {mc ms : Nat} {o : mm_O} {σ' : mm_S} {r : Int64} {I1 : Nat → Nat → Int32} {J1 : Nat → Nat → Int64} (hcall : mm_Call l X 43 d [.ref 5, .int s0, .int x2] (mm_Λ, I, J) 0 0 (.inl (some (.long r))) (mm_Λ, I1, J1)) (hr : mm_Run l X 42 (d + 1) 68 [.ref 13, .int x1, .int x2, .long x3, .null, .int x5, .long x6, .null, .int x8, .null, .null, .null, .null] [.long r, .long s2] (mm_Λ, I1, J1) mc ms o σ') : mm_Run l X 42 (d + 1) 64 [.ref 13, .int x1, .int x2, .long x3, .null, .int x5, .long x6, .null, .int x8, .null, .null, .null, .null] [.int s0, .ref 5, .long s2] (mm_Λ, I, J) mc ms o σ' := by
  refine mm_iload_n d42_64 rfl ?_
  exact mm_callV0 (as := [.int s0, .int x2]) (S := [.long s2]) d42_65 okm43 ln42_47 im43 se43 rfl ⟨_, _, rfl⟩ rfl rfl (Nat.le_of_ble_eq_true rfl) (Nat.le_of_ble_eq_true rfl) hcall hr
theorem b42_68 {l : Launch} {X : Nat × (Nat → Int32)} {d : Nat} {I : Nat → Nat → Int32} {J : Nat → Nat → Int64} {x1 : Int32} {x2 : Int32} {x3 : Int64} {x5 : Int32} {x6 : Int64} {x8 : Int32} {s0 : Int64} {s1 : Int64} {mc ms : Nat} {o : mm_O} {σ' : mm_S} (hr : mm_Run l X 42 (d + 1) 14 [.ref 13, .int x1, .int x2, .long x3, .null, .int x5, .long (s1 - s0), .null, .int (x8 + 1), .null, .null, .null, .null] [] (mm_Λ, I, J) mc ms o σ') : mm_Run l X 42 (d + 1) 68 [.ref 13, .int x1, .int x2, .long x3, .null, .int x5, .long x6, .null, .int x8, .null, .null, .null, .null] [.long s0, .long s1] (mm_Λ, I, J) mc ms o σ' := by
  refine mm_lsub d42_68 ?_
  refine mm_lstore d42_69 (by decide +kernel) ?_
  refine mm_ii d42_71 ci1 rfl (by decide +kernel) ?_
  refine mm_goto (tgt := 14) d42_74 (by decide) ?_
  exact hr
theorem b42_77 {l : Launch} {X : Nat × (Nat → Int32)} {d : Nat} {I : Nat → Nat → Int32} {J : Nat → Nat → Int64} {x1 : Int32} {x2 : Int32} {x3 : Int64} {x5 : Int32} {x6 : Int64} {x8 : Int32} {mc ms : Nat} {o : mm_O} {σ' : mm_S} {I1 : Nat → Nat → Int32} {J1 : Nat → Nat → Int64} (hcall : mm_Call l X 44 d [.ref 13, .int x1, .int x8] (mm_Λ, I, J) 0 0 (.inl none) (mm_Λ, I1, J1)) (hr : mm_Run l X 42 (d + 1) 84 [.ref 13, .int x1, .int x2, .long x3, .null, .int x5, .long x6, .null, .int x8, .null, .null, .null, .null] [] (mm_Λ, I1, J1) mc ms o σ') : mm_Run l X 42 (d + 1) 77 [.ref 13, .int x1, .int x2, .long x3, .null, .int x5, .long x6, .null, .int x8, .null, .null, .null, .null] [] (mm_Λ, I, J) mc ms o σ' := by
  refine mm_aload_n (v := .ref 13) d42_77 rfl (Or.inl ⟨_, rfl⟩) ?_
  refine mm_iload_n d42_78 rfl ?_
  refine mm_iload d42_79 rfl ?_
  exact mm_callV0 (as := [.int x1, .int x8]) (S := []) d42_81 okm44 ln42_53 im44 se44 rfl ⟨_, _, rfl⟩ rfl rfl (Nat.le_of_ble_eq_true rfl) (Nat.le_of_ble_eq_true rfl) hcall hr
theorem b42_84 {l : Launch} {X : Nat × (Nat → Int32)} {d : Nat} {I : Nat → Nat → Int32} {J : Nat → Nat → Int64} {x1 : Int32} {x2 : Int32} {x3 : Int64} {x5 : Int32} {x6 : Int64} {x8 : Int32} {mc ms : Nat} {o : mm_O} {σ' : mm_S} (kt : ¬ x2 = 0 → mm_Run l X 42 (d + 1) 89 [.ref 13, .int x1, .int x2, .long x3, .null, .int x5, .long x6, .null, .int x8, .null, .null, .null, .null] [] (mm_Λ, I, J) mc ms o σ') (kf : ¬ (¬ x2 = 0) → mm_Run l X 42 (d + 1) 88 [.ref 13, .int x1, .int x2, .long x3, .null, .int x5, .long x6, .null, .int x8, .null, .null, .null, .null] [] (mm_Λ, I, J) mc ms o σ') : mm_Run l X 42 (d + 1) 84 [.ref 13, .int x1, .int x2, .long x3, .null, .int x5, .long x6, .null, .int x8, .null, .null, .null, .null] [] (mm_Λ, I, J) mc ms o σ' := by
  refine mm_iload_n d42_84 rfl ?_
  refine mm_if (tgt := 89) d42_85 (by decide) (fun h => ?_) (fun h => ?_)
  · exact kt h
  · exact kf h
theorem b42_88 {l : Launch} {X : Nat × (Nat → Int32)} {d : Nat} {I : Nat → Nat → Int32} {J : Nat → Nat → Int64} {x1 : Int32} {x2 : Int32} {x3 : Int64} {x5 : Int32} {x6 : Int64} {x8 : Int32} {mc ms : Nat}  : mm_Run l X 42 (d + 1) 88 [.ref 13, .int x1, .int x2, .long x3, .null, .int x5, .long x6, .null, .int x8, .null, .null, .null, .null] [] (mm_Λ, I, J) mc ms (.inl none) (mm_Λ, I, J) := by
  exact mm_vreturn d42_88 rfl
theorem b42_89 {l : Launch} {X : Nat × (Nat → Int32)} {d : Nat} {I : Nat → Nat → Int32} {J : Nat → Nat → Int64} {x1 : Int32} {x2 : Int32} {x3 : Int64} {x5 : Int32} {x6 : Int64} {x8 : Int32} {mc ms : Nat} {o : mm_O} {σ' : mm_S} {r : Int32} {I1 : Nat → Nat → Int32} {J1 : Nat → Nat → Int64} (hcall : mm_Call l X 21 d [.int x5, .int x8] (mm_Λ, I, J) 0 0 (.inl (some (.int r))) (mm_Λ, I1, J1)) (hr : mm_Run l X 42 (d + 1) 96 [.ref 13, .int x1, .int x2, .long x3, .null, .int x5, .long x6, .null, .int x8, .null, .null, .null, .null] [.int r] (mm_Λ, I1, J1) mc ms o σ') : mm_Run l X 42 (d + 1) 89 [.ref 13, .int x1, .int x2, .long x3, .null, .int x5, .long x6, .null, .int x8, .null, .null, .null, .null] [] (mm_Λ, I, J) mc ms o σ' := by
  refine mm_iload d42_89 rfl ?_
  refine mm_iload d42_91 rfl ?_
  exact mm_callS0 (as := [.int x5, .int x8]) (S := []) d42_93 okm21 ln42_43 st21 rfl rfl (Nat.le_of_ble_eq_true rfl) (Nat.le_of_ble_eq_true rfl) hcall hr
theorem b42_96 {l : Launch} {X : Nat × (Nat → Int32)} {d : Nat} {I : Nat → Nat → Int32} {J : Nat → Nat → Int64} {x1 : Int32} {x2 : Int32} {x3 : Int64} {x5 : Int32} {x6 : Int64} {x8 : Int32} {s0 : Int32} {mc ms : Nat} {o : mm_O} {σ' : mm_S} (hr : mm_Run l X 42 (d + 1) 101 [.ref 13, .int x1, .int x2, .long x3, .null, .int x5, .long x6, .null, .int x8, .int s0, .int 0, .null, .null] [] (mm_Λ, I, J) mc ms o σ') : mm_Run l X 42 (d + 1) 96 [.ref 13, .int x1, .int x2, .long x3, .null, .int x5, .long x6, .null, .int x8, .null, .null, .null, .null] [.int s0] (mm_Λ, I, J) mc ms o σ' := by
  refine mm_istore d42_96 (by decide +kernel) ?_
  refine mm_ic d42_98 ci0 ?_
  refine mm_istore d42_99 (by decide +kernel) ?_
  exact hr
theorem b42_101 {l : Launch} {X : Nat × (Nat → Int32)} {d : Nat} {I : Nat → Nat → Int32} {J : Nat → Nat → Int64} {x1 : Int32} {x2 : Int32} {x3 : Int64} {x5 : Int32} {x6 : Int64} {x8 : Int32} {x9 : Int32} {x10 : Int32} {mc ms : Nat} {o : mm_O} {σ' : mm_S} (i108 : vp_in x1 256) (kt : (I 16 x1.toNatClampNeg) ≤ x10 → mm_Run l X 42 (d + 1) 166 [.ref 13, .int x1, .int x2, .long x3, .null, .int x5, .long x6, .null, .int x8, .int x9, .int x10, .null, .null] [] (mm_Λ, I, J) mc ms o σ') (kf : ¬ ((I 16 x1.toNatClampNeg) ≤ x10) → mm_Run l X 42 (d + 1) 112 [.ref 13, .int x1, .int x2, .long x3, .null, .int x5, .long x6, .null, .int x8, .int x9, .int x10, .null, .null] [] (mm_Λ, I, J) mc ms o σ') : mm_Run l X 42 (d + 1) 101 [.ref 13, .int x1, .int x2, .long x3, .null, .int x5, .long x6, .null, .int x8, .int x9, .int x10, .null, .null] [] (mm_Λ, I, J) mc ms o σ' := by
  refine mm_iload d42_101 rfl ?_
  refine mm_aload_n (v := .ref 13) d42_103 rfl (Or.inl ⟨_, rfl⟩) ?_
  refine mm_getfield (v := .ref 16) d42_104 okc5 fk42_18 rfl rfl (by nofun) ?_
  refine mm_iload_n d42_107 rfl ?_
  refine mm_iaload d42_108 rfl i108 ?_
  refine mm_icmp (tgt := 166) d42_109 (by decide) (fun h => ?_) (fun h => ?_)
  · exact kt h
  · exact kf h
theorem b42_112 {l : Launch} {X : Nat × (Nat → Int32)} {d : Nat} {I : Nat → Nat → Int32} {J : Nat → Nat → Int64} {x1 : Int32} {x2 : Int32} {x3 : Int64} {x5 : Int32} {x6 : Int64} {x8 : Int32} {x9 : Int32} {x10 : Int32} {mc ms : Nat} {o : mm_O} {σ' : mm_S} {r : Int64} {I1 : Nat → Nat → Int32} {J1 : Nat → Nat → Int64} (hcall : mm_Call l X 25 d [.ref 5, .int x9, .int (x10 + 1), .int x2] (mm_Λ, I, J) 0 0 (.inl (some (.long r))) (mm_Λ, I1, J1)) (hr : mm_Run l X 42 (d + 1) 126 [.ref 13, .int x1, .int x2, .long x3, .null, .int x5, .long x6, .null, .int x8, .int x9, .int x10, .null, .null] [.long r] (mm_Λ, I1, J1) mc ms o σ') : mm_Run l X 42 (d + 1) 112 [.ref 13, .int x1, .int x2, .long x3, .null, .int x5, .long x6, .null, .int x8, .int x9, .int x10, .null, .null] [] (mm_Λ, I, J) mc ms o σ' := by
  refine mm_aload_n (v := .ref 13) d42_112 rfl (Or.inl ⟨_, rfl⟩) ?_
  refine mm_getfield (v := .ref 5) d42_113 okc5 fk42_25 rfl rfl (by nofun) ?_
  refine mm_iload d42_116 rfl ?_
  refine mm_iload d42_118 rfl ?_
  refine mm_ic d42_120 ci1 ?_
  refine mm_iadd d42_121 ?_
  refine mm_iload_n d42_122 rfl ?_
  exact mm_callV0 (as := [.int x9, .int (x10 + 1), .int x2]) (S := []) d42_123 okm25 ln42_57 im25 se25 rfl ⟨_, _, rfl⟩ rfl rfl (Nat.le_of_ble_eq_true rfl) (Nat.le_of_ble_eq_true rfl) hcall hr
theorem b42_126 {l : Launch} {X : Nat × (Nat → Int32)} {d : Nat} {I : Nat → Nat → Int32} {J : Nat → Nat → Int64} {x1 : Int32} {x2 : Int32} {x3 : Int64} {x5 : Int32} {x6 : Int64} {x8 : Int32} {x9 : Int32} {x10 : Int32} {s0 : Int64} {mc ms : Nat} {o : mm_O} {σ' : mm_S} (kt : (lg_cmp s0 0) ≤ 0 → mm_Run l X 42 (d + 1) 160 [.ref 13, .int x1, .int x2, .long x3, .null, .int x5, .long x6, .null, .int x8, .int x9, .int x10, .long s0, .null] [] (mm_Λ, I, J) mc ms o σ') (kf : ¬ ((lg_cmp s0 0) ≤ 0) → mm_Run l X 42 (d + 1) 135 [.ref 13, .int x1, .int x2, .long x3, .null, .int x5, .long x6, .null, .int x8, .int x9, .int x10, .long s0, .null] [] (mm_Λ, I, J) mc ms o σ') : mm_Run l X 42 (d + 1) 126 [.ref 13, .int x1, .int x2, .long x3, .null, .int x5, .long x6, .null, .int x8, .int x9, .int x10, .null, .null] [.long s0] (mm_Λ, I, J) mc ms o σ' := by
  refine mm_lstore d42_126 (by decide +kernel) ?_
  refine mm_lload d42_128 rfl ?_
  refine mm_lc d42_130 lc0 ?_
  refine mm_lcmp d42_131 ?_
  refine mm_if (tgt := 160) d42_132 (by decide) (fun h => ?_) (fun h => ?_)
  · exact kt h
  · exact kf h
theorem b42_135 {l : Launch} {X : Nat × (Nat → Int32)} {d : Nat} {I : Nat → Nat → Int32} {J : Nat → Nat → Int64} {x1 : Int32} {x2 : Int32} {x3 : Int64} {x5 : Int32} {x6 : Int64} {x8 : Int32} {x9 : Int32} {x10 : Int32} {x11 : Int64} {mc ms : Nat} {o : mm_O} {σ' : mm_S} {r : Int32} {I1 : Nat → Nat → Int32} {J1 : Nat → Nat → Int64} (hcall : mm_Call l X 45 d [.int x1, .int x10] (mm_Λ, I, J) 0 0 (.inl (some (.int r))) (mm_Λ, I1, J1)) (hr : mm_Run l X 42 (d + 1) 142 [.ref 13, .int x1, .int x2, .long x3, .null, .int x5, .long x6, .null, .int x8, .int x9, .int x10, .long x11, .null] [.int r, .ref 13] (mm_Λ, I1, J1) mc ms o σ') : mm_Run l X 42 (d + 1) 135 [.ref 13, .int x1, .int x2, .long x3, .null, .int x5, .long x6, .null, .int x8, .int x9, .int x10, .long x11, .null] [] (mm_Λ, I, J) mc ms o σ' := by
  refine mm_aload_n (v := .ref 13) d42_135 rfl (Or.inl ⟨_, rfl⟩) ?_
  refine mm_iload_n d42_136 rfl ?_
  refine mm_iload d42_137 rfl ?_
  exact mm_callS0 (as := [.int x1, .int x10]) (S := [.ref 13]) d42_139 okm45 ln42_61 st45 rfl rfl (Nat.le_of_ble_eq_true rfl) (Nat.le_of_ble_eq_true rfl) hcall hr
theorem b42_142 {l : Launch} {X : Nat × (Nat → Int32)} {d : Nat} {I : Nat → Nat → Int32} {J : Nat → Nat → Int64} {x1 : Int32} {x2 : Int32} {x3 : Int64} {x5 : Int32} {x6 : Int64} {x8 : Int32} {x9 : Int32} {x10 : Int32} {x11 : Int64} {s0 : Int32} {mc ms : Nat} {o : mm_O} {σ' : mm_S} (n149 : ¬ x11 = 0) {I1 : Nat → Nat → Int32} {J1 : Nat → Nat → Int64} (hcall : mm_Call l X 42 d [.ref 13, .int s0, .int (x2 - 1), .long (x6 / x11)] (mm_Λ, I, J) 0 0 (.inl none) (mm_Λ, I1, J1)) (hr : mm_Run l X 42 (d + 1) 153 [.ref 13, .int x1, .int x2, .long x3, .null, .int x5, .long x6, .null, .int x8, .int x9, .int x10, .long x11, .null] [] (mm_Λ, I1, J1) mc ms o σ') : mm_Run l X 42 (d + 1) 142 [.ref 13, .int x1, .int x2, .long x3, .null, .int x5, .long x6, .null, .int x8, .int x9, .int x10, .long x11, .null] [.int s0, .ref 13] (mm_Λ, I, J) mc ms o σ' := by
  refine mm_iload_n d42_142 rfl ?_
  refine mm_ic d42_143 ci1 ?_
  refine mm_isub d42_144 ?_
  refine mm_lload d42_145 rfl ?_
  refine mm_lload d42_147 rfl ?_
  refine mm_ldiv d42_149 n149 ?_
  exact mm_callV0 (as := [.int s0, .int (x2 - 1), .long (x6 / x11)]) (S := []) d42_150 okm42 ln42_33 im42 se42 rfl ⟨_, _, rfl⟩ rfl rfl (Nat.le_of_ble_eq_true rfl) (Nat.le_of_ble_eq_true rfl) hcall hr
theorem b42_153 {l : Launch} {X : Nat × (Nat → Int32)} {d : Nat} {I : Nat → Nat → Int32} {J : Nat → Nat → Int64} {x1 : Int32} {x2 : Int32} {x3 : Int64} {x5 : Int32} {x6 : Int64} {x8 : Int32} {x9 : Int32} {x10 : Int32} {x11 : Int64} {mc ms : Nat} {o : mm_O} {σ' : mm_S} (n157 : ¬ x11 = 0) (hr : mm_Run l X 42 (d + 1) 160 [.ref 13, .int x1, .int x2, .long x3, .null, .int x5, .long (x6 - x6 / x11 * x11), .null, .int x8, .int x9, .int x10, .long x11, .null] [] (mm_Λ, I, J) mc ms o σ') : mm_Run l X 42 (d + 1) 153 [.ref 13, .int x1, .int x2, .long x3, .null, .int x5, .long x6, .null, .int x8, .int x9, .int x10, .long x11, .null] [] (mm_Λ, I, J) mc ms o σ' := by
  refine mm_lload d42_153 rfl ?_
  refine mm_lload d42_155 rfl ?_
  refine mm_lrem d42_157 n157 ?_
  refine mm_lstore d42_158 (by decide +kernel) ?_
  exact hr
theorem b42_160 {l : Launch} {X : Nat × (Nat → Int32)} {d : Nat} {I : Nat → Nat → Int32} {J : Nat → Nat → Int64} {x1 : Int32} {x2 : Int32} {x3 : Int64} {x5 : Int32} {x6 : Int64} {x8 : Int32} {x9 : Int32} {x10 : Int32} {x11 : Int64} {mc ms : Nat} {o : mm_O} {σ' : mm_S} (hr : mm_Run l X 42 (d + 1) 101 [.ref 13, .int x1, .int x2, .long x3, .null, .int x5, .long x6, .null, .int x8, .int x9, .int (x10 + 1), .null, .null] [] (mm_Λ, I, J) mc ms o σ') : mm_Run l X 42 (d + 1) 160 [.ref 13, .int x1, .int x2, .long x3, .null, .int x5, .long x6, .null, .int x8, .int x9, .int x10, .long x11, .null] [] (mm_Λ, I, J) mc ms o σ' := by
  refine mm_ii d42_160 ci1 rfl (by decide +kernel) ?_
  refine mm_goto (tgt := 101) d42_163 (by decide) ?_
  exact mm_forget hr (by exact ⟨rfl, rfl, rfl, rfl, rfl, rfl, rfl, rfl, rfl, trivial⟩)
theorem b42_166 {l : Launch} {X : Nat × (Nat → Int32)} {d : Nat} {I : Nat → Nat → Int32} {J : Nat → Nat → Int64} {x1 : Int32} {x2 : Int32} {x3 : Int64} {x5 : Int32} {x6 : Int64} {x8 : Int32} {x9 : Int32} {x10 : Int32} {mc ms : Nat}  : mm_Run l X 42 (d + 1) 166 [.ref 13, .int x1, .int x2, .long x3, .null, .int x5, .long x6, .null, .int x8, .int x9, .int x10, .null, .null] [] (mm_Λ, I, J) mc ms (.inl none) (mm_Λ, I, J) := by
  exact mm_vreturn d42_166 rfl
theorem b43_0 {l : Launch} {X : Nat × (Nat → Int32)} {d : Nat} {I : Nat → Nat → Int32} {J : Nat → Nat → Int64} {x1 : Int32} {x2 : Int32} {mc ms : Nat} (i9 : vp_in ((x1 * 5) + x2) 120) : mm_Run l X 43 d 0 [.ref 5, .int x1, .int x2] [] (mm_Λ, I, J) mc ms (.inl (some (.long (J 7 ((x1 * 5) + x2).toNatClampNeg)))) (mm_Λ, I, J) := by
  refine mm_aload_n (v := .ref 5) d43_0 rfl (Or.inl ⟨_, rfl⟩) ?_
  refine mm_getfield (v := .ref 7) d43_1 okc2 fk43_15 rfl rfl (by nofun) ?_
  refine mm_iload_n d43_4 rfl ?_
  refine mm_ic d43_5 ci5 ?_
  refine mm_imul d43_6 ?_
  refine mm_iload_n d43_7 rfl ?_
  refine mm_iadd d43_8 ?_
  refine mm_laload d43_9 rfl i9 ?_
  exact mm_lreturn d43_10 rfl
theorem b44_0 {l : Launch} {X : Nat × (Nat → Int32)} {d : Nat} {I : Nat → Nat → Int32} {J : Nat → Nat → Int64} {x1 : Int32} {x2 : Int32} {mc ms : Nat} {o : mm_O} {σ' : mm_S} (i5 : vp_in x1 256) {r : Int32} {I1 : Nat → Nat → Int32} {J1 : Nat → Nat → Int64} (hcall : mm_Call l X 21 d [.int (I 14 x1.toNatClampNeg), .int x2] (mm_Λ, I, J) 0 0 (.inl (some (.int r))) (mm_Λ, I1, J1)) (hr : mm_Run l X 44 (d + 1) 10 [.ref 13, .int x1, .int x2, .null, .null, .null] [.int r] (mm_Λ, I1, J1) mc ms o σ') : mm_Run l X 44 (d + 1) 0 [.ref 13, .int x1, .int x2, .null, .null, .null] [] (mm_Λ, I, J) mc ms o σ' := by
  refine mm_aload_n (v := .ref 13) d44_0 rfl (Or.inl ⟨_, rfl⟩) ?_
  refine mm_getfield (v := .ref 14) d44_1 okc5 fk44_9 rfl rfl (by nofun) ?_
  refine mm_iload_n d44_4 rfl ?_
  refine mm_iaload d44_5 rfl i5 ?_
  refine mm_iload_n d44_6 rfl ?_
  exact mm_callS0 (as := [.int (I 14 x1.toNatClampNeg), .int x2]) (S := []) d44_7 okm21 ln44_43 st21 rfl rfl (Nat.le_of_ble_eq_true rfl) (Nat.le_of_ble_eq_true rfl) hcall hr
theorem b44_10 {l : Launch} {X : Nat × (Nat → Int32)} {d : Nat} {I : Nat → Nat → Int32} {J : Nat → Nat → Int64} {x1 : Int32} {x2 : Int32} {s0 : Int32} {mc ms : Nat} {o : mm_O} {σ' : mm_S} (i17 : vp_in x1 256) {r : Int32} {I1 : Nat → Nat → Int32} {J1 : Nat → Nat → Int64} (hcall : mm_Call l X 24 d [.ref 1, .int s0] (mm_Λ, (mm_set I 15 x1.toNatClampNeg x2), J) 0 0 (.inl (some (.int r))) (mm_Λ, I1, J1)) (hr : mm_Run l X 44 (d + 1) 31 [.ref 13, .int x1, .int x2, .int s0, .null, .null] [.int r, .int x1, .ref 16] (mm_Λ, I1, J1) mc ms o σ') : mm_Run l X 44 (d + 1) 10 [.ref 13, .int x1, .int x2, .null, .null, .null] [.int s0] (mm_Λ, I, J) mc ms o σ' := by
  refine mm_istore_n d44_10 (by decide +kernel) ?_
  refine mm_aload_n (v := .ref 13) d44_11 rfl (Or.inl ⟨_, rfl⟩) ?_
  refine mm_getfield (v := .ref 15) d44_12 okc5 fk44_15 rfl rfl (by nofun) ?_
  refine mm_iload_n d44_15 rfl ?_
  refine mm_iload_n d44_16 rfl ?_
  refine mm_iastore d44_17 rfl i17 ?_
  refine mm_aload_n (v := .ref 13) d44_18 rfl (Or.inl ⟨_, rfl⟩) ?_
  refine mm_getfield (v := .ref 16) d44_19 okc5 fk44_18 rfl rfl (by nofun) ?_
  refine mm_iload_n d44_22 rfl ?_
  refine mm_aload_n (v := .ref 13) d44_23 rfl (Or.inl ⟨_, rfl⟩) ?_
  refine mm_getfield (v := .ref 1) d44_24 okc5 fk44_21 rfl rfl (by nofun) ?_
  refine mm_iload_n d44_27 rfl ?_
  exact mm_callV0 (as := [.int s0]) (S := [.int x1, .ref 16]) d44_28 okm24 ln44_66 im24 se24 rfl ⟨_, _, rfl⟩ rfl rfl (Nat.le_of_ble_eq_true rfl) (Nat.le_of_ble_eq_true rfl) hcall hr
theorem b44_31 {l : Launch} {X : Nat × (Nat → Int32)} {d : Nat} {I : Nat → Nat → Int32} {J : Nat → Nat → Int64} {x1 : Int32} {x2 : Int32} {x3 : Int32} {s0 : Int32} {s1 : Int32} {mc ms : Nat} {o : mm_O} {σ' : mm_S} (i31 : vp_in s1 256) (hr : mm_Run l X 44 (d + 1) 35 [.ref 13, .int x1, .int x2, .int x3, .int 0, .null] [] (mm_Λ, (mm_set I 16 s1.toNatClampNeg s0), J) mc ms o σ') : mm_Run l X 44 (d + 1) 31 [.ref 13, .int x1, .int x2, .int x3, .null, .null] [.int s0, .int s1, .ref 16] (mm_Λ, I, J) mc ms o σ' := by
  refine mm_iastore d44_31 rfl i31 ?_
  refine mm_ic d44_32 ci0 ?_
  refine mm_istore d44_33 (by decide +kernel) ?_
  exact hr
theorem b44_35 {l : Launch} {X : Nat × (Nat → Int32)} {d : Nat} {I : Nat → Nat → Int32} {J : Nat → Nat → Int64} {x1 : Int32} {x2 : Int32} {x3 : Int32} {x4 : Int32} {mc ms : Nat} {o : mm_O} {σ' : mm_S} (i42 : vp_in x1 256) (kt : (I 16 x1.toNatClampNeg) ≤ x4 → mm_Run l X 44 (d + 1) 91 [.ref 13, .int x1, .int x2, .int x3, .int x4, .null] [] (mm_Λ, I, J) mc ms o σ') (kf : ¬ ((I 16 x1.toNatClampNeg) ≤ x4) → mm_Run l X 44 (d + 1) 46 [.ref 13, .int x1, .int x2, .int x3, .int x4, .null] [] (mm_Λ, I, J) mc ms o σ') : mm_Run l X 44 (d + 1) 35 [.ref 13, .int x1, .int x2, .int x3, .int x4, .null] [] (mm_Λ, I, J) mc ms o σ' := by
  refine mm_iload d44_35 rfl ?_
  refine mm_aload_n (v := .ref 13) d44_37 rfl (Or.inl ⟨_, rfl⟩) ?_
  refine mm_getfield (v := .ref 16) d44_38 okc5 fk44_18 rfl rfl (by nofun) ?_
  refine mm_iload_n d44_41 rfl ?_
  refine mm_iaload d44_42 rfl i42 ?_
  refine mm_icmp (tgt := 91) d44_43 (by decide) (fun h => ?_) (fun h => ?_)
  · exact kt h
  · exact kf h
theorem b44_46 {l : Launch} {X : Nat × (Nat → Int32)} {d : Nat} {I : Nat → Nat → Int32} {J : Nat → Nat → Int64} {x1 : Int32} {x2 : Int32} {x3 : Int32} {x4 : Int32} {mc ms : Nat} {o : mm_O} {σ' : mm_S} {r : Int32} {I1 : Nat → Nat → Int32} {J1 : Nat → Nat → Int64} (hcall : mm_Call l X 45 d [.int x1, .int x4] (mm_Λ, I, J) 0 0 (.inl (some (.int r))) (mm_Λ, I1, J1)) (hr : mm_Run l X 44 (d + 1) 52 [.ref 13, .int x1, .int x2, .int x3, .int x4, .null] [.int r] (mm_Λ, I1, J1) mc ms o σ') : mm_Run l X 44 (d + 1) 46 [.ref 13, .int x1, .int x2, .int x3, .int x4, .null] [] (mm_Λ, I, J) mc ms o σ' := by
  refine mm_iload_n d44_46 rfl ?_
  refine mm_iload d44_47 rfl ?_
  exact mm_callS0 (as := [.int x1, .int x4]) (S := []) d44_49 okm45 ln44_61 st45 rfl rfl (Nat.le_of_ble_eq_true rfl) (Nat.le_of_ble_eq_true rfl) hcall hr
theorem b44_52 {l : Launch} {X : Nat × (Nat → Int32)} {d : Nat} {I : Nat → Nat → Int32} {J : Nat → Nat → Int64} {x1 : Int32} {x2 : Int32} {x3 : Int32} {x4 : Int32} {s0 : Int32} {mc ms : Nat} {o : mm_O} {σ' : mm_S} (kt : 256 ≤ s0 → mm_Run l X 44 (d + 1) 85 [.ref 13, .int x1, .int x2, .int x3, .int x4, .int s0] [] (mm_Λ, I, J) mc ms o σ') (kf : ¬ (256 ≤ s0) → mm_Run l X 44 (d + 1) 62 [.ref 13, .int x1, .int x2, .int x3, .int x4, .int s0] [] (mm_Λ, I, J) mc ms o σ') : mm_Run l X 44 (d + 1) 52 [.ref 13, .int x1, .int x2, .int x3, .int x4, .null] [.int s0] (mm_Λ, I, J) mc ms o σ' := by
  refine mm_istore d44_52 (by decide +kernel) ?_
  refine mm_iload d44_54 rfl ?_
  refine mm_si d44_56 cs256 ?_
  refine mm_icmp (tgt := 85) d44_59 (by decide) (fun h => ?_) (fun h => ?_)
  · exact kt h
  · exact kf h
theorem b44_62 {l : Launch} {X : Nat × (Nat → Int32)} {d : Nat} {I : Nat → Nat → Int32} {J : Nat → Nat → Int64} {x1 : Int32} {x2 : Int32} {x3 : Int32} {x4 : Int32} {x5 : Int32} {mc ms : Nat} {o : mm_O} {σ' : mm_S} {r : Int32} {I1 : Nat → Nat → Int32} {J1 : Nat → Nat → Int64} (hcall : mm_Call l X 26 d [.ref 1, .int x3, .int x4] (mm_Λ, I, J) 0 0 (.inl (some (.int r))) (mm_Λ, I1, J1)) (hr : mm_Run l X 44 (d + 1) 78 [.ref 13, .int x1, .int x2, .int x3, .int x4, .int x5] [.int r, .int x5, .ref 14] (mm_Λ, I1, J1) mc ms o σ') : mm_Run l X 44 (d + 1) 62 [.ref 13, .int x1, .int x2, .int x3, .int x4, .int x5] [] (mm_Λ, I, J) mc ms o σ' := by
  refine mm_aload_n (v := .ref 13) d44_62 rfl (Or.inl ⟨_, rfl⟩) ?_
  refine mm_getfield (v := .ref 14) d44_63 okc5 fk44_9 rfl rfl (by nofun) ?_
  refine mm_iload d44_66 rfl ?_
  refine mm_aload_n (v := .ref 13) d44_68 rfl (Or.inl ⟨_, rfl⟩) ?_
  refine mm_getfield (v := .ref 1) d44_69 okc5 fk44_21 rfl rfl (by nofun) ?_
  refine mm_iload_n d44_72 rfl ?_
  refine mm_iload d44_73 rfl ?_
  exact mm_callV0 (as := [.int x3, .int x4]) (S := [.int x5, .ref 14]) d44_75 okm26 ln44_69 im26 se26 rfl ⟨_, _, rfl⟩ rfl rfl (Nat.le_of_ble_eq_true rfl) (Nat.le_of_ble_eq_true rfl) hcall hr
theorem b44_78 {l : Launch} {X : Nat × (Nat → Int32)} {d : Nat} {I : Nat → Nat → Int32} {J : Nat → Nat → Int64} {x1 : Int32} {x2 : Int32} {x3 : Int32} {x4 : Int32} {x5 : Int32} {s0 : Int32} {s1 : Int32} {mc ms : Nat} {o : mm_O} {σ' : mm_S} (i78 : vp_in s1 256) {I1 : Nat → Nat → Int32} {J1 : Nat → Nat → Int64} (hcall : mm_Call l X 46 d [.ref 13, .int x5] (mm_Λ, (mm_set I 14 s1.toNatClampNeg s0), J) 0 0 (.inl none) (mm_Λ, I1, J1)) (hr : mm_Run l X 44 (d + 1) 85 [.ref 13, .int x1, .int x2, .int x3, .int x4, .int x5] [] (mm_Λ, I1, J1) mc ms o σ') : mm_Run l X 44 (d + 1) 78 [.ref 13, .int x1, .int x2, .int x3, .int x4, .int x5] [.int s0, .int s1, .ref 14] (mm_Λ, I, J) mc ms o σ' := by
  refine mm_iastore d44_78 rfl i78 ?_
  refine mm_aload_n (v := .ref 13) d44_79 rfl (Or.inl ⟨_, rfl⟩) ?_
  refine mm_iload d44_80 rfl ?_
  exact mm_callV0 (as := [.int x5]) (S := []) d44_82 okm46 ln44_29 im46 se46 rfl ⟨_, _, rfl⟩ rfl rfl (Nat.le_of_ble_eq_true rfl) (Nat.le_of_ble_eq_true rfl) hcall hr
theorem b44_85 {l : Launch} {X : Nat × (Nat → Int32)} {d : Nat} {I : Nat → Nat → Int32} {J : Nat → Nat → Int64} {x1 : Int32} {x2 : Int32} {x3 : Int32} {x4 : Int32} {x5 : Int32} {mc ms : Nat} {o : mm_O} {σ' : mm_S} (hr : mm_Run l X 44 (d + 1) 35 [.ref 13, .int x1, .int x2, .int x3, .int (x4 + 1), .null] [] (mm_Λ, I, J) mc ms o σ') : mm_Run l X 44 (d + 1) 85 [.ref 13, .int x1, .int x2, .int x3, .int x4, .int x5] [] (mm_Λ, I, J) mc ms o σ' := by
  refine mm_ii d44_85 ci1 rfl (by decide +kernel) ?_
  refine mm_goto (tgt := 35) d44_88 (by decide) ?_
  exact mm_forget hr (by exact ⟨rfl, rfl, rfl, rfl, rfl, trivial⟩)
theorem b44_91 {l : Launch} {X : Nat × (Nat → Int32)} {d : Nat} {I : Nat → Nat → Int32} {J : Nat → Nat → Int64} {x1 : Int32} {x2 : Int32} {x3 : Int32} {x4 : Int32} {mc ms : Nat}  : mm_Run l X 44 (d + 1) 91 [.ref 13, .int x1, .int x2, .int x3, .int x4, .null] [] (mm_Λ, I, J) mc ms (.inl none) (mm_Λ, I, J) := by
  exact mm_vreturn d44_91 rfl
theorem b45_0 {l : Launch} {X : Nat × (Nat → Int32)} {d : Nat} {I : Nat → Nat → Int32} {J : Nat → Nat → Int64} {x0 : Int32} {x1 : Int32} {mc ms : Nat}  : mm_Run l X 45 d 0 [.int x0, .int x1] [] (mm_Λ, I, J) mc ms (.inl (some (.int (((4 * x0) + x1) + 1)))) (mm_Λ, I, J) := by
  refine mm_ic d45_0 ci4 ?_
  refine mm_iload_n d45_1 rfl ?_
  refine mm_imul d45_2 ?_
  refine mm_iload_n d45_3 rfl ?_
  refine mm_iadd d45_4 ?_
  refine mm_ic d45_5 ci1 ?_
  refine mm_iadd d45_6 ?_
  exact mm_ireturn d45_7 rfl
theorem b46_0 {l : Launch} {X : Nat × (Nat → Int32)} {d : Nat} {I : Nat → Nat → Int32} {J : Nat → Nat → Int64} {x1 : Int32} {mc ms : Nat} (i7 : vp_in x1 256) (i14 : vp_in x1 256) : mm_Run l X 46 d 0 [.ref 13, .int x1] [] (mm_Λ, I, J) mc ms (.inl none) (mm_Λ, (mm_set (mm_set I 15 x1.toNatClampNeg (-2)) 16 x1.toNatClampNeg 0), J) := by
  refine mm_aload_n (v := .ref 13) d46_0 rfl (Or.inl ⟨_, rfl⟩) ?_
  refine mm_getfield (v := .ref 15) d46_1 okc5 fk46_15 rfl rfl (by nofun) ?_
  refine mm_iload_n d46_4 rfl ?_
  refine mm_bi d46_5 cbm2 ?_
  refine mm_iastore d46_7 rfl i7 ?_
  refine mm_aload_n (v := .ref 13) d46_8 rfl (Or.inl ⟨_, rfl⟩) ?_
  refine mm_getfield (v := .ref 16) d46_9 okc5 fk46_18 rfl rfl (by nofun) ?_
  refine mm_iload_n d46_12 rfl ?_
  refine mm_ic d46_13 ci0 ?_
  refine mm_iastore d46_14 rfl i14 ?_
  exact mm_vreturn d46_15 rfl
theorem b47_0 {l : Launch} {X : Nat × (Nat → Int32)} {d : Nat} {I : Nat → Nat → Int32} {J : Nat → Nat → Int64}  {mc ms : Nat} {o : mm_O} {σ' : mm_S} {I1 : Nat → Nat → Int32} {J1 : Nat → Nat → Int64} (hcall : mm_Call l X 48 d [.ref 11] (mm_Λ, I, J) 0 0 (.inl none) (mm_Λ, I1, J1)) (hr : mm_Run l X 47 (d + 1) 4 [.ref 13, .ref 11] [] (mm_Λ, I1, J1) mc ms o σ') : mm_Run l X 47 (d + 1) 0 [.ref 13, .ref 11] [] (mm_Λ, I, J) mc ms o σ' := by
  refine mm_aload_n (v := .ref 11) d47_0 rfl (Or.inl ⟨_, rfl⟩) ?_
  exact mm_callV0 (as := []) (S := []) d47_1 okm48 ln47_85 im48 se48 rfl ⟨_, _, rfl⟩ rfl rfl (Nat.le_of_ble_eq_true rfl) (Nat.le_of_ble_eq_true rfl) hcall hr
theorem b47_4 {l : Launch} {X : Nat × (Nat → Int32)} {d : Nat} {I : Nat → Nat → Int32} {J : Nat → Nat → Int64}  {mc ms : Nat} {o : mm_O} {σ' : mm_S} {I1 : Nat → Nat → Int32} {J1 : Nat → Nat → Int64} (hcall : mm_Call l X 49 d [.ref 13, .ref 11, .int 0, .int 0] (mm_Λ, I, J) 0 0 (.inl none) (mm_Λ, I1, J1)) (hr : mm_Run l X 47 (d + 1) 11 [.ref 13, .ref 11] [] (mm_Λ, I1, J1) mc ms o σ') : mm_Run l X 47 (d + 1) 4 [.ref 13, .ref 11] [] (mm_Λ, I, J) mc ms o σ' := by
  refine mm_aload_n (v := .ref 13) d47_4 rfl (Or.inl ⟨_, rfl⟩) ?_
  refine mm_aload_n (v := .ref 11) d47_5 rfl (Or.inl ⟨_, rfl⟩) ?_
  refine mm_ic d47_6 ci0 ?_
  refine mm_ic d47_7 ci0 ?_
  exact mm_callV0 (as := [.ref 11, .int 0, .int 0]) (S := []) d47_8 okm49 ln47_90 im49 se49 rfl ⟨_, _, rfl⟩ rfl rfl (Nat.le_of_ble_eq_true rfl) (Nat.le_of_ble_eq_true rfl) hcall hr
theorem b47_11 {l : Launch} {X : Nat × (Nat → Int32)} {d : Nat} {I : Nat → Nat → Int32} {J : Nat → Nat → Int64}  {mc ms : Nat}  : mm_Run l X 47 (d + 1) 11 [.ref 13, .ref 11] [] (mm_Λ, I, J) mc ms (.inl none) (mm_Λ, I, J) := by
  exact mm_vreturn d47_11 rfl
theorem b48_0 {l : Launch} {X : Nat × (Nat → Int32)} {d : Nat} {I : Nat → Nat → Int32} {J : Nat → Nat → Int64}  {mc ms : Nat}  : mm_Run l X 48 d 0 [.ref 11] [] (mm_Λ, I, J) mc ms (.inl none) (mm_Λ, (mm_set I 11 1 0), J) := by
  refine mm_aload_n (v := .ref 11) d48_0 rfl (Or.inl ⟨_, rfl⟩) ?_
  refine mm_ic d48_1 ci0 ?_
  refine mm_putfield d48_2 okc4 fk48_15 fp48_15 rfl rfl rfl ?_
  exact mm_vreturn d48_5 rfl
theorem b49_0 {l : Launch} {X : Nat × (Nat → Int32)} {d : Nat} {I : Nat → Nat → Int32} {J : Nat → Nat → Int64} {x2 : Int32} {x3 : Int32} {mc ms : Nat} {o : mm_O} {σ' : mm_S} (i6 : vp_in x2 256) {I1 : Nat → Nat → Int32} {J1 : Nat → Nat → Int64} (hcall : mm_Call l X 50 d [.ref 11, .int (I 15 x2.toNatClampNeg)] (mm_Λ, I, J) 0 0 (.inl none) (mm_Λ, I1, J1)) (hr : mm_Run l X 49 (d + 1) 10 [.ref 13, .ref 11, .int x2, .int x3, .null] [] (mm_Λ, I1, J1) mc ms o σ') : mm_Run l X 49 (d + 1) 0 [.ref 13, .ref 11, .int x2, .int x3, .null] [] (mm_Λ, I, J) mc ms o σ' := by
  refine mm_aload_n (v := .ref 11) d49_0 rfl (Or.inl ⟨_, rfl⟩) ?_
  refine mm_aload_n (v := .ref 13) d49_1 rfl (Or.inl ⟨_, rfl⟩) ?_
  refine mm_getfield (v := .ref 15) d49_2 okc5 fk49_15 rfl rfl (by nofun) ?_
  refine mm_iload_n d49_5 rfl ?_
  refine mm_iaload d49_6 rfl i6 ?_
  exact mm_callV0 (as := [.int (I 15 x2.toNatClampNeg)]) (S := []) d49_7 okm50 ln49_94 im50 se50 rfl ⟨_, _, rfl⟩ rfl rfl (Nat.le_of_ble_eq_true rfl) (Nat.le_of_ble_eq_true rfl) hcall hr
theorem b49_10 {l : Launch} {X : Nat × (Nat → Int32)} {d : Nat} {I : Nat → Nat → Int32} {J : Nat → Nat → Int64} {x2 : Int32} {x3 : Int32} {mc ms : Nat} {o : mm_O} {σ' : mm_S} (kt : 4 ≤ x3 → mm_Run l X 49 (d + 1) 49 [.ref 13, .ref 11, .int x2, .int x3, .null] [] (mm_Λ, I, J) mc ms o σ') (kf : ¬ (4 ≤ x3) → mm_Run l X 49 (d + 1) 15 [.ref 13, .ref 11, .int x2, .int x3, .null] [] (mm_Λ, I, J) mc ms o σ') : mm_Run l X 49 (d + 1) 10 [.ref 13, .ref 11, .int x2, .int x3, .null] [] (mm_Λ, I, J) mc ms o σ' := by
  refine mm_iload_n d49_10 rfl ?_
  refine mm_ic d49_11 ci4 ?_
  refine mm_icmp (tgt := 49) d49_12 (by decide) (fun h => ?_) (fun h => ?_)
  · exact kt h
  · exact kf h
theorem b49_15 {l : Launch} {X : Nat × (Nat → Int32)} {d : Nat} {I : Nat → Nat → Int32} {J : Nat → Nat → Int64} {x2 : Int32} {x3 : Int32} {mc ms : Nat} {o : mm_O} {σ' : mm_S} (hr : mm_Run l X 49 (d + 1) 18 [.ref 13, .ref 11, .int x2, .int x3, .int 0] [] (mm_Λ, I, J) mc ms o σ') : mm_Run l X 49 (d + 1) 15 [.ref 13, .ref 11, .int x2, .int x3, .null] [] (mm_Λ, I, J) mc ms o σ' := by
  refine mm_ic d49_15 ci0 ?_
  refine mm_istore d49_16 (by decide +kernel) ?_
  exact hr
theorem b49_18 {l : Launch} {X : Nat × (Nat → Int32)} {d : Nat} {I : Nat → Nat → Int32} {J : Nat → Nat → Int64} {x2 : Int32} {x3 : Int32} {x4 : Int32} {mc ms : Nat} {o : mm_O} {σ' : mm_S} (i25 : vp_in x2 256) (kt : (I 16 x2.toNatClampNeg) ≤ x4 → mm_Run l X 49 (d + 1) 49 [.ref 13, .ref 11, .int x2, .int x3, .null] [] (mm_Λ, I, J) mc ms o σ') (kf : ¬ ((I 16 x2.toNatClampNeg) ≤ x4) → mm_Run l X 49 (d + 1) 29 [.ref 13, .ref 11, .int x2, .int x3, .int x4] [] (mm_Λ, I, J) mc ms o σ') : mm_Run l X 49 (d + 1) 18 [.ref 13, .ref 11, .int x2, .int x3, .int x4] [] (mm_Λ, I, J) mc ms o σ' := by
  refine mm_iload d49_18 rfl ?_
  refine mm_aload_n (v := .ref 13) d49_20 rfl (Or.inl ⟨_, rfl⟩) ?_
  refine mm_getfield (v := .ref 16) d49_21 okc5 fk49_18 rfl rfl (by nofun) ?_
  refine mm_iload_n d49_24 rfl ?_
  refine mm_iaload d49_25 rfl i25 ?_
  refine mm_icmp (tgt := 49) d49_26 (by decide) (fun h => ?_) (fun h => ?_)
  · exact mm_forget (kt h) (by exact ⟨rfl, rfl, rfl, rfl, trivial⟩)
  · exact kf h
theorem b49_29 {l : Launch} {X : Nat × (Nat → Int32)} {d : Nat} {I : Nat → Nat → Int32} {J : Nat → Nat → Int64} {x2 : Int32} {x3 : Int32} {x4 : Int32} {mc ms : Nat} {o : mm_O} {σ' : mm_S} {r : Int32} {I1 : Nat → Nat → Int32} {J1 : Nat → Nat → Int64} (hcall : mm_Call l X 45 d [.int x2, .int x4] (mm_Λ, I, J) 0 0 (.inl (some (.int r))) (mm_Λ, I1, J1)) (hr : mm_Run l X 49 (d + 1) 37 [.ref 13, .ref 11, .int x2, .int x3, .int x4] [.int r, .ref 11, .ref 13] (mm_Λ, I1, J1) mc ms o σ') : mm_Run l X 49 (d + 1) 29 [.ref 13, .ref 11, .int x2, .int x3, .int x4] [] (mm_Λ, I, J) mc ms o σ' := by
  refine mm_aload_n (v := .ref 13) d49_29 rfl (Or.inl ⟨_, rfl⟩) ?_
  refine mm_aload_n (v := .ref 11) d49_30 rfl (Or.inl ⟨_, rfl⟩) ?_
  refine mm_iload_n d49_31 rfl ?_
  refine mm_iload d49_32 rfl ?_
  exact mm_callS0 (as := [.int x2, .int x4]) (S := [.ref 11, .ref 13]) d49_34 okm45 ln49_61 st45 rfl rfl (Nat.le_of_ble_eq_true rfl) (Nat.le_of_ble_eq_true rfl) hcall hr
theorem b49_37 {l : Launch} {X : Nat × (Nat → Int32)} {d : Nat} {I : Nat → Nat → Int32} {J : Nat → Nat → Int64} {x2 : Int32} {x3 : Int32} {x4 : Int32} {s0 : Int32} {mc ms : Nat} {o : mm_O} {σ' : mm_S} {I1 : Nat → Nat → Int32} {J1 : Nat → Nat → Int64} (hcall : mm_Call l X 49 d [.ref 13, .ref 11, .int s0, .int (x3 + 1)] (mm_Λ, I, J) 0 0 (.inl none) (mm_Λ, I1, J1)) (hr : mm_Run l X 49 (d + 1) 43 [.ref 13, .ref 11, .int x2, .int x3, .int x4] [] (mm_Λ, I1, J1) mc ms o σ') : mm_Run l X 49 (d + 1) 37 [.ref 13, .ref 11, .int x2, .int x3, .int x4] [.int s0, .ref 11, .ref 13] (mm_Λ, I, J) mc ms o σ' := by
  refine mm_iload_n d49_37 rfl ?_
  refine mm_ic d49_38 ci1 ?_
  refine mm_iadd d49_39 ?_
  exact mm_callV0 (as := [.ref 11, .int s0, .int (x3 + 1)]) (S := []) d49_40 okm49 ln49_90 im49 se49 rfl ⟨_, _, rfl⟩ rfl rfl (Nat.le_of_ble_eq_true rfl) (Nat.le_of_ble_eq_true rfl) hcall hr
theorem b49_43 {l : Launch} {X : Nat × (Nat → Int32)} {d : Nat} {I : Nat → Nat → Int32} {J : Nat → Nat → Int64} {x2 : Int32} {x3 : Int32} {x4 : Int32} {mc ms : Nat} {o : mm_O} {σ' : mm_S} (hr : mm_Run l X 49 (d + 1) 18 [.ref 13, .ref 11, .int x2, .int x3, .int (x4 + 1)] [] (mm_Λ, I, J) mc ms o σ') : mm_Run l X 49 (d + 1) 43 [.ref 13, .ref 11, .int x2, .int x3, .int x4] [] (mm_Λ, I, J) mc ms o σ' := by
  refine mm_ii d49_43 ci1 rfl (by decide +kernel) ?_
  refine mm_goto (tgt := 18) d49_46 (by decide) ?_
  exact hr
theorem b49_49 {l : Launch} {X : Nat × (Nat → Int32)} {d : Nat} {I : Nat → Nat → Int32} {J : Nat → Nat → Int64} {x2 : Int32} {x3 : Int32} {mc ms : Nat}  : mm_Run l X 49 (d + 1) 49 [.ref 13, .ref 11, .int x2, .int x3, .null] [] (mm_Λ, I, J) mc ms (.inl none) (mm_Λ, I, J) := by
  exact mm_vreturn d49_49 rfl
theorem b50_0 {l : Launch} {X : Nat × (Nat → Int32)} {d : Nat} {I : Nat → Nat → Int32} {J : Nat → Nat → Int64} {x1 : Int32} {mc ms : Nat} {o : mm_O} {σ' : mm_S} (kt : 121 ≤ (I 11 1) → mm_Run l X 50 d 29 [.ref 11, .int x1] [] (mm_Λ, I, J) mc ms o σ') (kf : ¬ (121 ≤ (I 11 1)) → mm_Run l X 50 d 9 [.ref 11, .int x1] [] (mm_Λ, I, J) mc ms o σ') : mm_Run l X 50 d 0 [.ref 11, .int x1] [] (mm_Λ, I, J) mc ms o σ' := by
  refine mm_aload_n (v := .ref 11) d50_0 rfl (Or.inl ⟨_, rfl⟩) ?_
  refine mm_getfield (v := .int (I 11 1)) d50_1 okc4 fk50_15 rfl rfl (by nofun) ?_
  refine mm_bi d50_4 cb121 ?_
  refine mm_icmp (tgt := 29) d50_6 (by decide) (fun h => ?_) (fun h => ?_)
  · exact kt h
  · exact kf h
theorem b50_9 {l : Launch} {X : Nat × (Nat → Int32)} {d : Nat} {I : Nat → Nat → Int32} {J : Nat → Nat → Int64} {x1 : Int32} {mc ms : Nat} {o : mm_O} {σ' : mm_S} (i18 : vp_in (I 11 1) 121) (hr : mm_Run l X 50 d 29 [.ref 11, .int x1] [] (mm_Λ, (mm_set (mm_set I 12 (I 11 1).toNatClampNeg x1) 11 1 ((I 11 1) + 1)), J) mc ms o σ') : mm_Run l X 50 d 9 [.ref 11, .int x1] [] (mm_Λ, I, J) mc ms o σ' := by
  refine mm_aload_n (v := .ref 11) d50_9 rfl (Or.inl ⟨_, rfl⟩) ?_
  refine mm_getfield (v := .ref 12) d50_10 okc4 fk50_9 rfl rfl (by nofun) ?_
  refine mm_aload_n (v := .ref 11) d50_13 rfl (Or.inl ⟨_, rfl⟩) ?_
  refine mm_getfield (v := .int (I 11 1)) d50_14 okc4 fk50_15 rfl rfl (by nofun) ?_
  refine mm_iload_n d50_17 rfl ?_
  refine mm_iastore d50_18 rfl i18 ?_
  refine mm_aload_n (v := .ref 11) d50_19 rfl (Or.inl ⟨_, rfl⟩) ?_
  refine mm_dup d50_20 rfl ?_
  refine mm_getfield (v := .int (I 11 1)) d50_21 okc4 fk50_15 rfl rfl (by nofun) ?_
  refine mm_ic d50_24 ci1 ?_
  refine mm_iadd d50_25 ?_
  refine mm_putfield d50_26 okc4 fk50_15 fp50_15 rfl rfl rfl ?_
  exact hr
theorem b50_29 {l : Launch} {X : Nat × (Nat → Int32)} {d : Nat} {I : Nat → Nat → Int32} {J : Nat → Nat → Int64} {x1 : Int32} {mc ms : Nat}  : mm_Run l X 50 d 29 [.ref 11, .int x1] [] (mm_Λ, I, J) mc ms (.inl none) (mm_Λ, I, J) := by
  exact mm_vreturn d50_29 rfl
theorem b51_0 {l : Launch} {X : Nat × (Nat → Int32)} {d : Nat} {I : Nat → Nat → Int32} {J : Nat → Nat → Int64}  {mc ms : Nat}  : mm_Run l X 51 d 0 [.ref 11] [] (mm_Λ, I, J) mc ms (.inl (some (.int (I 11 1)))) (mm_Λ, I, J) := by
  refine mm_aload_n (v := .ref 11) d51_0 rfl (Or.inl ⟨_, rfl⟩) ?_
  refine mm_getfield (v := .int (I 11 1)) d51_1 okc4 fk51_15 rfl rfl (by nofun) ?_
  exact mm_ireturn d51_4 rfl
theorem b53_0 {l : Launch} {X : Nat × (Nat → Int32)} {d : Nat} {I : Nat → Nat → Int32} {J : Nat → Nat → Int64} {x1 : Int32} {x2 : Int32} {mc ms : Nat} {o : mm_O} {σ' : mm_S} {I1 : Nat → Nat → Int32} {J1 : Nat → Nat → Int64} (hcall : mm_Call l X 17 d [.int x1] (mm_Λ, I, J) 0 0 (.inl none) (mm_Λ, I1, J1)) (hr : mm_Run l X 53 (d + 1) 4 [.ref 0, .int x1, .int x2] [] (mm_Λ, I1, J1) mc ms o σ') : mm_Run l X 53 (d + 1) 0 [.ref 0, .int x1, .int x2] [] (mm_Λ, I, J) mc ms o σ' := by
  refine mm_iload_n d53_0 rfl ?_
  exact mm_callS0 (as := [.int x1]) (S := []) d53_1 okm17 ln53_81 st17 rfl rfl (Nat.le_of_ble_eq_true rfl) (Nat.le_of_ble_eq_true rfl) hcall hr
theorem b53_0t {l : Launch} {X : Nat × (Nat → Int32)} {d : Nat} {I : Nat → Nat → Int32} {J : Nat → Nat → Int64} {x1 : Int32} {x2 : Int32} {mc ms : Nat} {E : String} {I1 : Nat → Nat → Int32} {J1 : Nat → Nat → Int64} (hcall : mm_Call l X 17 d [.int x1] (mm_Λ, I, J) mc ms (.inr E) (mm_Λ, I1, J1)) : mm_Run l X 53 (d + 1) 0 [.ref 0, .int x1, .int x2] [] (mm_Λ, I, J) mc ms (.inr E) (mm_Λ, I1, J1) := by
  refine mm_iload_n d53_0 rfl ?_
  exact mm_thrown_out (mm_callST (as := [.int x1]) (S := []) d53_1 okm17 ln53_81 st17 rfl rfl (Nat.le_of_ble_eq_true rfl) (Nat.le_of_ble_eq_true rfl) hcall) rfl
theorem b53_4 {l : Launch} {X : Nat × (Nat → Int32)} {d : Nat} {I : Nat → Nat → Int32} {J : Nat → Nat → Int64} {x1 : Int32} {x2 : Int32} {mc ms : Nat} {o : mm_O} {σ' : mm_S} {I1 : Nat → Nat → Int32} {J1 : Nat → Nat → Int64} (hcall : mm_Call l X 54 d [.int x2] (mm_Λ, I, J) 0 0 (.inl none) (mm_Λ, I1, J1)) (hr : mm_Run l X 53 (d + 1) 8 [.ref 0, .int x1, .int x2] [] (mm_Λ, I1, J1) mc ms o σ') : mm_Run l X 53 (d + 1) 4 [.ref 0, .int x1, .int x2] [] (mm_Λ, I, J) mc ms o σ' := by
  refine mm_iload_n d53_4 rfl ?_
  exact mm_callS0 (as := [.int x2]) (S := []) d53_5 okm54 ln53_136 st54 rfl rfl (Nat.le_of_ble_eq_true rfl) (Nat.le_of_ble_eq_true rfl) hcall hr
theorem b53_4t {l : Launch} {X : Nat × (Nat → Int32)} {d : Nat} {I : Nat → Nat → Int32} {J : Nat → Nat → Int64} {x1 : Int32} {x2 : Int32} {mc ms : Nat} {E : String} {I1 : Nat → Nat → Int32} {J1 : Nat → Nat → Int64} (hcall : mm_Call l X 54 d [.int x2] (mm_Λ, I, J) mc ms (.inr E) (mm_Λ, I1, J1)) : mm_Run l X 53 (d + 1) 4 [.ref 0, .int x1, .int x2] [] (mm_Λ, I, J) mc ms (.inr E) (mm_Λ, I1, J1) := by
  refine mm_iload_n d53_4 rfl ?_
  exact mm_thrown_out (mm_callST (as := [.int x2]) (S := []) d53_5 okm54 ln53_136 st54 rfl rfl (Nat.le_of_ble_eq_true rfl) (Nat.le_of_ble_eq_true rfl) hcall) rfl
theorem b53_8 {l : Launch} {X : Nat × (Nat → Int32)} {d : Nat} {I : Nat → Nat → Int32} {J : Nat → Nat → Int64} {x1 : Int32} {x2 : Int32} {mc ms : Nat} {o : mm_O} {σ' : mm_S} {r : Int64} {I1 : Nat → Nat → Int32} {J1 : Nat → Nat → Int64} (hcall : mm_Call l X 33 d [.ref 8, .int x1, .int x2] (mm_Λ, I, J) 0 0 (.inl (some (.long r))) (mm_Λ, I1, J1)) (hr : mm_Run l X 53 (d + 1) 17 [.ref 0, .int x1, .int x2] [.long r] (mm_Λ, I1, J1) mc ms o σ') : mm_Run l X 53 (d + 1) 8 [.ref 0, .int x1, .int x2] [] (mm_Λ, I, J) mc ms o σ' := by
  refine mm_aload_n (v := .ref 0) d53_8 rfl (Or.inl ⟨_, rfl⟩) ?_
  refine mm_getfield (v := .ref 8) d53_9 okc0 fk53_28 rfl rfl (by nofun) ?_
  refine mm_iload_n d53_12 rfl ?_
  refine mm_iload_n d53_13 rfl ?_
  exact mm_callV0 (as := [.int x1, .int x2]) (S := []) d53_14 okm33 ln53_139 im33 se33 rfl ⟨_, _, rfl⟩ rfl rfl (Nat.le_of_ble_eq_true rfl) (Nat.le_of_ble_eq_true rfl) hcall hr
theorem b53_17 {l : Launch} {X : Nat × (Nat → Int32)} {d : Nat} {I : Nat → Nat → Int32} {J : Nat → Nat → Int64} {x1 : Int32} {x2 : Int32} {s0 : Int64} {mc ms : Nat}  : mm_Run l X 53 (d + 1) 17 [.ref 0, .int x1, .int x2] [.long s0] (mm_Λ, I, J) mc ms (.inl (some (.long s0))) (mm_Λ, I, J) := by
  exact mm_lreturn d53_17 rfl
theorem b54_0 {l : Launch} {X : Nat × (Nat → Int32)} {d : Nat} {I : Nat → Nat → Int32} {J : Nat → Nat → Int64} {x0 : Int32} {mc ms : Nat} {o : mm_O} {σ' : mm_S} (kt : x0 < 1 → mm_Run l X 54 d 11 [.int x0] [] (mm_Λ, I, J) mc ms o σ') (kf : ¬ (x0 < 1) → mm_Run l X 54 d 5 [.int x0] [] (mm_Λ, I, J) mc ms o σ') : mm_Run l X 54 d 0 [.int x0] [] (mm_Λ, I, J) mc ms o σ' := by
  refine mm_iload_n d54_0 rfl ?_
  refine mm_ic d54_1 ci1 ?_
  refine mm_icmp (tgt := 11) d54_2 (by decide) (fun h => ?_) (fun h => ?_)
  · exact kt h
  · exact kf h
theorem b54_5 {l : Launch} {X : Nat × (Nat → Int32)} {d : Nat} {I : Nat → Nat → Int32} {J : Nat → Nat → Int64} {x0 : Int32} {mc ms : Nat} {o : mm_O} {σ' : mm_S} (kt : x0 ≤ 12 → mm_Run l X 54 d 21 [.int x0] [] (mm_Λ, I, J) mc ms o σ') (kf : ¬ (x0 ≤ 12) → mm_Run l X 54 d 11 [.int x0] [] (mm_Λ, I, J) mc ms o σ') : mm_Run l X 54 d 5 [.int x0] [] (mm_Λ, I, J) mc ms o σ' := by
  refine mm_iload_n d54_5 rfl ?_
  refine mm_bi d54_6 cb12 ?_
  refine mm_icmp (tgt := 21) d54_8 (by decide) (fun h => ?_) (fun h => ?_)
  · exact kt h
  · exact kf h
theorem b54_11 {l : Launch} {X : Nat × (Nat → Int32)} {d : Nat} {I : Nat → Nat → Int32} {J : Nat → Nat → Int64} {x0 : Int32}   : mm_Run l X 54 d 11 [.int x0] [] (mm_Λ, I, J) 1 6 (.inr (mm_ex 1)) (mm_Λ, I, J) := by
  exact thr54_11
theorem b54_21 {l : Launch} {X : Nat × (Nat → Int32)} {d : Nat} {I : Nat → Nat → Int32} {J : Nat → Nat → Int64} {x0 : Int32} {mc ms : Nat}  : mm_Run l X 54 d 21 [.int x0] [] (mm_Λ, I, J) mc ms (.inl none) (mm_Λ, I, J) := by
  exact mm_vreturn d54_21 rfl
theorem b56_0 {l : Launch} {X : Nat × (Nat → Int32)} {d : Nat} {I : Nat → Nat → Int32} {J : Nat → Nat → Int64} {x1 : Int32} {x2 : Int32} {x3 : Int64} {mc ms : Nat} {o : mm_O} {σ' : mm_S} {I1 : Nat → Nat → Int32} {J1 : Nat → Nat → Int64} (hcall : mm_Call l X 17 d [.int x1] (mm_Λ, I, J) 0 0 (.inl none) (mm_Λ, I1, J1)) (hr : mm_Run l X 56 (d + 1) 4 [.ref 0, .int x1, .int x2, .long x3, .null] [] (mm_Λ, I1, J1) mc ms o σ') : mm_Run l X 56 (d + 1) 0 [.ref 0, .int x1, .int x2, .long x3, .null] [] (mm_Λ, I, J) mc ms o σ' := by
  refine mm_iload_n d56_0 rfl ?_
  exact mm_callS0 (as := [.int x1]) (S := []) d56_1 okm17 ln56_81 st17 rfl rfl (Nat.le_of_ble_eq_true rfl) (Nat.le_of_ble_eq_true rfl) hcall hr
theorem b56_0t {l : Launch} {X : Nat × (Nat → Int32)} {d : Nat} {I : Nat → Nat → Int32} {J : Nat → Nat → Int64} {x1 : Int32} {x2 : Int32} {x3 : Int64} {mc ms : Nat} {E : String} {I1 : Nat → Nat → Int32} {J1 : Nat → Nat → Int64} (hcall : mm_Call l X 17 d [.int x1] (mm_Λ, I, J) mc ms (.inr E) (mm_Λ, I1, J1)) : mm_Run l X 56 (d + 1) 0 [.ref 0, .int x1, .int x2, .long x3, .null] [] (mm_Λ, I, J) mc ms (.inr E) (mm_Λ, I1, J1) := by
  refine mm_iload_n d56_0 rfl ?_
  exact mm_thrown_out (mm_callST (as := [.int x1]) (S := []) d56_1 okm17 ln56_81 st17 rfl rfl (Nat.le_of_ble_eq_true rfl) (Nat.le_of_ble_eq_true rfl) hcall) rfl
theorem b56_4 {l : Launch} {X : Nat × (Nat → Int32)} {d : Nat} {I : Nat → Nat → Int32} {J : Nat → Nat → Int64} {x1 : Int32} {x2 : Int32} {x3 : Int64} {mc ms : Nat} {o : mm_O} {σ' : mm_S} {I1 : Nat → Nat → Int32} {J1 : Nat → Nat → Int64} (hcall : mm_Call l X 54 d [.int x2] (mm_Λ, I, J) 0 0 (.inl none) (mm_Λ, I1, J1)) (hr : mm_Run l X 56 (d + 1) 8 [.ref 0, .int x1, .int x2, .long x3, .null] [] (mm_Λ, I1, J1) mc ms o σ') : mm_Run l X 56 (d + 1) 4 [.ref 0, .int x1, .int x2, .long x3, .null] [] (mm_Λ, I, J) mc ms o σ' := by
  refine mm_iload_n d56_4 rfl ?_
  exact mm_callS0 (as := [.int x2]) (S := []) d56_5 okm54 ln56_136 st54 rfl rfl (Nat.le_of_ble_eq_true rfl) (Nat.le_of_ble_eq_true rfl) hcall hr
theorem b56_4t {l : Launch} {X : Nat × (Nat → Int32)} {d : Nat} {I : Nat → Nat → Int32} {J : Nat → Nat → Int64} {x1 : Int32} {x2 : Int32} {x3 : Int64} {mc ms : Nat} {E : String} {I1 : Nat → Nat → Int32} {J1 : Nat → Nat → Int64} (hcall : mm_Call l X 54 d [.int x2] (mm_Λ, I, J) mc ms (.inr E) (mm_Λ, I1, J1)) : mm_Run l X 56 (d + 1) 4 [.ref 0, .int x1, .int x2, .long x3, .null] [] (mm_Λ, I, J) mc ms (.inr E) (mm_Λ, I1, J1) := by
  refine mm_iload_n d56_4 rfl ?_
  exact mm_thrown_out (mm_callST (as := [.int x2]) (S := []) d56_5 okm54 ln56_136 st54 rfl rfl (Nat.le_of_ble_eq_true rfl) (Nat.le_of_ble_eq_true rfl) hcall) rfl
theorem b56_8 {l : Launch} {X : Nat × (Nat → Int32)} {d : Nat} {I : Nat → Nat → Int32} {J : Nat → Nat → Int64} {x1 : Int32} {x2 : Int32} {x3 : Int64} {mc ms : Nat} {o : mm_O} {σ' : mm_S} {r : Int64} {I1 : Nat → Nat → Int32} {J1 : Nat → Nat → Int64} (hcall : mm_Call l X 33 d [.ref 8, .int x1, .int x2] (mm_Λ, I, J) 0 0 (.inl (some (.long r))) (mm_Λ, I1, J1)) (hr : mm_Run l X 56 (d + 1) 18 [.ref 0, .int x1, .int x2, .long x3, .null] [.long r, .long x3] (mm_Λ, I1, J1) mc ms o σ') : mm_Run l X 56 (d + 1) 8 [.ref 0, .int x1, .int x2, .long x3, .null] [] (mm_Λ, I, J) mc ms o σ' := by
  refine mm_lload_n d56_8 rfl ?_
  refine mm_aload_n (v := .ref 0) d56_9 rfl (Or.inl ⟨_, rfl⟩) ?_
  refine mm_getfield (v := .ref 8) d56_10 okc0 fk56_28 rfl rfl (by nofun) ?_
  refine mm_iload_n d56_13 rfl ?_
  refine mm_iload_n d56_14 rfl ?_
  exact mm_callV0 (as := [.int x1, .int x2]) (S := [.long x3]) d56_15 okm33 ln56_139 im33 se33 rfl ⟨_, _, rfl⟩ rfl rfl (Nat.le_of_ble_eq_true rfl) (Nat.le_of_ble_eq_true rfl) hcall hr
theorem b56_18 {l : Launch} {X : Nat × (Nat → Int32)} {d : Nat} {I : Nat → Nat → Int32} {J : Nat → Nat → Int64} {x1 : Int32} {x2 : Int32} {x3 : Int64} {s0 : Int64} {s1 : Int64} {mc ms : Nat} {o : mm_O} {σ' : mm_S} {I1 : Nat → Nat → Int32} {J1 : Nat → Nat → Int64} (hcall : mm_Call l X 40 d [.long s1, .long s0] (mm_Λ, I, J) 0 0 (.inl none) (mm_Λ, I1, J1)) (hr : mm_Run l X 56 (d + 1) 21 [.ref 0, .int x1, .int x2, .long x3, .null] [] (mm_Λ, I1, J1) mc ms o σ') : mm_Run l X 56 (d + 1) 18 [.ref 0, .int x1, .int x2, .long x3, .null] [.long s0, .long s1] (mm_Λ, I, J) mc ms o σ' := by
  exact mm_callS0 (as := [.long s1, .long s0]) (S := []) d56_18 okm40 ln56_120 st40 rfl rfl (Nat.le_of_ble_eq_true rfl) (Nat.le_of_ble_eq_true rfl) hcall hr
theorem b56_18t {l : Launch} {X : Nat × (Nat → Int32)} {d : Nat} {I : Nat → Nat → Int32} {J : Nat → Nat → Int64} {x1 : Int32} {x2 : Int32} {x3 : Int64} {s0 : Int64} {s1 : Int64} {mc ms : Nat} {E : String} {I1 : Nat → Nat → Int32} {J1 : Nat → Nat → Int64} (hcall : mm_Call l X 40 d [.long s1, .long s0] (mm_Λ, I, J) mc ms (.inr E) (mm_Λ, I1, J1)) : mm_Run l X 56 (d + 1) 18 [.ref 0, .int x1, .int x2, .long x3, .null] [.long s0, .long s1] (mm_Λ, I, J) mc ms (.inr E) (mm_Λ, I1, J1) := by
  exact mm_thrown_out (mm_callST (as := [.long s1, .long s0]) (S := []) d56_18 okm40 ln56_120 st40 rfl rfl (Nat.le_of_ble_eq_true rfl) (Nat.le_of_ble_eq_true rfl) hcall) rfl
theorem b56_21 {l : Launch} {X : Nat × (Nat → Int32)} {d : Nat} {I : Nat → Nat → Int32} {J : Nat → Nat → Int64} {x1 : Int32} {x2 : Int32} {x3 : Int64} {mc ms : Nat} {o : mm_O} {σ' : mm_S} {I1 : Nat → Nat → Int32} {J1 : Nat → Nat → Int64} (hcall : mm_Call l X 57 d [.ref 17, .int x1, .int x2, .long x3] (mm_Λ, I, J) 0 0 (.inl none) (mm_Λ, I1, J1)) (hr : mm_Run l X 56 (d + 1) 31 [.ref 0, .int x1, .int x2, .long x3, .null] [] (mm_Λ, I1, J1) mc ms o σ') : mm_Run l X 56 (d + 1) 21 [.ref 0, .int x1, .int x2, .long x3, .null] [] (mm_Λ, I, J) mc ms o σ' := by
  refine mm_aload_n (v := .ref 0) d56_21 rfl (Or.inl ⟨_, rfl⟩) ?_
  refine mm_getfield (v := .ref 17) d56_22 okc0 fk56_53 rfl rfl (by nofun) ?_
  refine mm_iload_n d56_25 rfl ?_
  refine mm_iload_n d56_26 rfl ?_
  refine mm_lload_n d56_27 rfl ?_
  exact mm_callV0 (as := [.int x1, .int x2, .long x3]) (S := []) d56_28 okm57 ln56_140 im57 se57 rfl ⟨_, _, rfl⟩ rfl rfl (Nat.le_of_ble_eq_true rfl) (Nat.le_of_ble_eq_true rfl) hcall hr
theorem b56_31 {l : Launch} {X : Nat × (Nat → Int32)} {d : Nat} {I : Nat → Nat → Int32} {J : Nat → Nat → Int64} {x1 : Int32} {x2 : Int32} {x3 : Int64} {mc ms : Nat} {o : mm_O} {σ' : mm_S} {r : Int32} {I1 : Nat → Nat → Int32} {J1 : Nat → Nat → Int64} (hcall : mm_Call l X 51 d [.ref 11] (mm_Λ, I, J) 0 0 (.inl (some (.int r))) (mm_Λ, I1, J1)) (hr : mm_Run l X 56 (d + 1) 38 [.ref 0, .int x1, .int x2, .long x3, .null] [.int r] (mm_Λ, I1, J1) mc ms o σ') : mm_Run l X 56 (d + 1) 31 [.ref 0, .int x1, .int x2, .long x3, .null] [] (mm_Λ, I, J) mc ms o σ' := by
  refine mm_aload_n (v := .ref 0) d56_31 rfl (Or.inl ⟨_, rfl⟩) ?_
  refine mm_getfield (v := .ref 11) d56_32 okc0 fk56_35 rfl rfl (by nofun) ?_
  exact mm_callV0 (as := []) (S := []) d56_35 okm51 ln56_132 im51 se51 rfl ⟨_, _, rfl⟩ rfl rfl (Nat.le_of_ble_eq_true rfl) (Nat.le_of_ble_eq_true rfl) hcall hr
theorem b56_38 {l : Launch} {X : Nat × (Nat → Int32)} {d : Nat} {I : Nat → Nat → Int32} {J : Nat → Nat → Int64} {x1 : Int32} {x2 : Int32} {x3 : Int64} {s0 : Int32} {mc ms : Nat}  : mm_Run l X 56 (d + 1) 38 [.ref 0, .int x1, .int x2, .long x3, .null] [.int s0] (mm_Λ, I, J) mc ms (.inl (some (.int s0))) (mm_Λ, I, J) := by
  exact mm_ireturn d56_38 rfl
theorem b57_0 {l : Launch} {X : Nat × (Nat → Int32)} {d : Nat} {I : Nat → Nat → Int32} {J : Nat → Nat → Int64} {x1 : Int32} {x2 : Int32} {x3 : Int64} {mc ms : Nat} {o : mm_O} {σ' : mm_S} {I1 : Nat → Nat → Int32} {J1 : Nat → Nat → Int64} (hcall : mm_Call l X 48 d [.ref 11] (mm_Λ, I, J) 0 0 (.inl none) (mm_Λ, I1, J1)) (hr : mm_Run l X 57 (d + 1) 7 [.ref 17, .int x1, .int x2, .long x3, .null] [] (mm_Λ, I1, J1) mc ms o σ') : mm_Run l X 57 (d + 1) 0 [.ref 17, .int x1, .int x2, .long x3, .null] [] (mm_Λ, I, J) mc ms o σ' := by
  refine mm_aload_n (v := .ref 17) d57_0 rfl (Or.inl ⟨_, rfl⟩) ?_
  refine mm_getfield (v := .ref 11) d57_1 okc6 fk57_23 rfl rfl (by nofun) ?_
  exact mm_callV0 (as := []) (S := []) d57_4 okm48 ln57_27 im48 se48 rfl ⟨_, _, rfl⟩ rfl rfl (Nat.le_of_ble_eq_true rfl) (Nat.le_of_ble_eq_true rfl) hcall hr
theorem b57_7 {l : Launch} {X : Nat × (Nat → Int32)} {d : Nat} {I : Nat → Nat → Int32} {J : Nat → Nat → Int64} {x1 : Int32} {x2 : Int32} {x3 : Int64} {mc ms : Nat} {o : mm_O} {σ' : mm_S} {I1 : Nat → Nat → Int32} {J1 : Nat → Nat → Int64} (hcall : mm_Call l X 58 d [.ref 17, .int x1, .int x2, .long x3] (mm_Λ, I, J) 0 0 (.inl none) (mm_Λ, I1, J1)) (hr : mm_Run l X 57 (d + 1) 14 [.ref 17, .int x1, .int x2, .long x3, .null] [] (mm_Λ, I1, J1) mc ms o σ') : mm_Run l X 57 (d + 1) 7 [.ref 17, .int x1, .int x2, .long x3, .null] [] (mm_Λ, I, J) mc ms o σ' := by
  refine mm_aload_n (v := .ref 17) d57_7 rfl (Or.inl ⟨_, rfl⟩) ?_
  refine mm_iload_n d57_8 rfl ?_
  refine mm_iload_n d57_9 rfl ?_
  refine mm_lload_n d57_10 rfl ?_
  exact mm_callV0 (as := [.int x1, .int x2, .long x3]) (S := []) d57_11 okm58 ln57_32 im58 se58 rfl ⟨_, _, rfl⟩ rfl rfl (Nat.le_of_ble_eq_true rfl) (Nat.le_of_ble_eq_true rfl) hcall hr
theorem b57_14 {l : Launch} {X : Nat × (Nat → Int32)} {d : Nat} {I : Nat → Nat → Int32} {J : Nat → Nat → Int64} {x1 : Int32} {x2 : Int32} {x3 : Int64} {mc ms : Nat}  : mm_Run l X 57 (d + 1) 14 [.ref 17, .int x1, .int x2, .long x3, .null] [] (mm_Λ, I, J) mc ms (.inl none) (mm_Λ, I, J) := by
  exact mm_vreturn d57_14 rfl
theorem b58_0 {l : Launch} {X : Nat × (Nat → Int32)} {d : Nat} {I : Nat → Nat → Int32} {J : Nat → Nat → Int64} {x1 : Int32} {x2 : Int32} {x3 : Int64} {mc ms : Nat} {o : mm_O} {σ' : mm_S} (kt : 1 ≤ x2 → mm_Run l X 58 (d + 1) 6 [.ref 17, .int x1, .int x2, .long x3, .null, .null, .null, .null] [] (mm_Λ, I, J) mc ms o σ') (kf : ¬ (1 ≤ x2) → mm_Run l X 58 (d + 1) 5 [.ref 17, .int x1, .int x2, .long x3, .null, .null, .null, .null] [] (mm_Λ, I, J) mc ms o σ') : mm_Run l X 58 (d + 1) 0 [.ref 17, .int x1, .int x2, .long x3, .null, .null, .null, .null] [] (mm_Λ, I, J) mc ms o σ' := by
  refine mm_iload_n d58_0 rfl ?_
  refine mm_ic d58_1 ci1 ?_
  refine mm_icmp (tgt := 6) d58_2 (by decide) (fun h => ?_) (fun h => ?_)
  · exact kt h
  · exact kf h
theorem b58_5 {l : Launch} {X : Nat × (Nat → Int32)} {d : Nat} {I : Nat → Nat → Int32} {J : Nat → Nat → Int64} {x1 : Int32} {x2 : Int32} {x3 : Int64} {mc ms : Nat}  : mm_Run l X 58 (d + 1) 5 [.ref 17, .int x1, .int x2, .long x3, .null, .null, .null, .null] [] (mm_Λ, I, J) mc ms (.inl none) (mm_Λ, I, J) := by
  exact mm_vreturn d58_5 rfl
theorem b58_6 {l : Launch} {X : Nat × (Nat → Int32)} {d : Nat} {I : Nat → Nat → Int32} {J : Nat → Nat → Int64} {x1 : Int32} {x2 : Int32} {x3 : Int64} {mc ms : Nat} {o : mm_O} {σ' : mm_S} (hr : mm_Run l X 58 (d + 1) 12 [.ref 17, .int x1, .int x2, .long x3, .null, .long x3, .null, .int 0] [] (mm_Λ, I, J) mc ms o σ') : mm_Run l X 58 (d + 1) 6 [.ref 17, .int x1, .int x2, .long x3, .null, .null, .null, .null] [] (mm_Λ, I, J) mc ms o σ' := by
  refine mm_lload_n d58_6 rfl ?_
  refine mm_lstore d58_7 (by decide +kernel) ?_
  refine mm_ic d58_9 ci0 ?_
  refine mm_istore d58_10 (by decide +kernel) ?_
  exact hr
theorem b58_12 {l : Launch} {X : Nat × (Nat → Int32)} {d : Nat} {I : Nat → Nat → Int32} {J : Nat → Nat → Int64} {x1 : Int32} {x2 : Int32} {x3 : Int64} {x5 : Int64} {x7 : Int32} {mc ms : Nat} {o : mm_O} {σ' : mm_S} {r : Int32} {I1 : Nat → Nat → Int32} {J1 : Nat → Nat → Int64} (hcall : mm_Call l X 19 d [.ref 1, .int x1] (mm_Λ, I, J) 0 0 (.inl (some (.int r))) (mm_Λ, I1, J1)) (hr : mm_Run l X 58 (d + 1) 22 [.ref 17, .int x1, .int x2, .long x3, .null, .long x5, .null, .int x7] [.int r, .int x7] (mm_Λ, I1, J1) mc ms o σ') : mm_Run l X 58 (d + 1) 12 [.ref 17, .int x1, .int x2, .long x3, .null, .long x5, .null, .int x7] [] (mm_Λ, I, J) mc ms o σ' := by
  refine mm_iload d58_12 rfl ?_
  refine mm_aload_n (v := .ref 17) d58_14 rfl (Or.inl ⟨_, rfl⟩) ?_
  refine mm_getfield (v := .ref 1) d58_15 okc6 fk58_15 rfl rfl (by nofun) ?_
  refine mm_iload_n d58_18 rfl ?_
  exact mm_callV0 (as := [.int x1]) (S := [.int x7]) d58_19 okm19 ln58_36 im19 se19 rfl ⟨_, _, rfl⟩ rfl rfl (Nat.le_of_ble_eq_true rfl) (Nat.le_of_ble_eq_true rfl) hcall hr
theorem b58_22 {l : Launch} {X : Nat × (Nat → Int32)} {d : Nat} {I : Nat → Nat → Int32} {J : Nat → Nat → Int64} {x1 : Int32} {x2 : Int32} {x3 : Int64} {x5 : Int64} {x7 : Int32} {s0 : Int32} {s1 : Int32} {mc ms : Nat} {o : mm_O} {σ' : mm_S} (kt : (s0 - 1) ≤ s1 → mm_Run l X 58 (d + 1) 78 [.ref 17, .int x1, .int x2, .long x3, .null, .long x5, .null, .int x7] [] (mm_Λ, I, J) mc ms o σ') (kf : ¬ ((s0 - 1) ≤ s1) → mm_Run l X 58 (d + 1) 27 [.ref 17, .int x1, .int x2, .long x3, .null, .long x5, .null, .int x7] [] (mm_Λ, I, J) mc ms o σ') : mm_Run l X 58 (d + 1) 22 [.ref 17, .int x1, .int x2, .long x3, .null, .long x5, .null, .int x7] [.int s0, .int s1] (mm_Λ, I, J) mc ms o σ' := by
  refine mm_ic d58_22 ci1 ?_
  refine mm_isub d58_23 ?_
  refine mm_icmp (tgt := 78) d58_24 (by decide) (fun h => ?_) (fun h => ?_)
  · exact kt h
  · exact kf h
theorem b58_27 {l : Launch} {X : Nat × (Nat → Int32)} {d : Nat} {I : Nat → Nat → Int32} {J : Nat → Nat → Int64} {x1 : Int32} {x2 : Int32} {x3 : Int64} {x5 : Int64} {x7 : Int32} {mc ms : Nat} {o : mm_O} {σ' : mm_S} {r : Int32} {I1 : Nat → Nat → Int32} {J1 : Nat → Nat → Int64} (hcall : mm_Call l X 21 d [.int x1, .int x7] (mm_Λ, I, J) 0 0 (.inl (some (.int r))) (mm_Λ, I1, J1)) (hr : mm_Run l X 58 (d + 1) 39 [.ref 17, .int x1, .int x2, .long x3, .null, .long x5, .null, .int x7] [.int r, .ref 8, .long x5] (mm_Λ, I1, J1) mc ms o σ') : mm_Run l X 58 (d + 1) 27 [.ref 17, .int x1, .int x2, .long x3, .null, .long x5, .null, .int x7] [] (mm_Λ, I, J) mc ms o σ' := by
  refine mm_lload d58_27 rfl ?_
  refine mm_aload_n (v := .ref 17) d58_29 rfl (Or.inl ⟨_, rfl⟩) ?_
  refine mm_getfield (v := .ref 8) d58_30 okc6 fk58_19 rfl rfl (by nofun) ?_
  refine mm_iload_n d58_33 rfl ?_
  refine mm_iload d58_34 rfl ?_
  exact mm_callS0 (as := [.int x1, .int x7]) (S := [.ref 8, .long x5]) d58_36 okm21 ln58_42 st21 rfl rfl (Nat.le_of_ble_eq_true rfl) (Nat.le_of_ble_eq_true rfl) hcall hr
theorem b58_39 {l : Launch} {X : Nat × (Nat → Int32)} {d : Nat} {I : Nat → Nat → Int32} {J : Nat → Nat → Int64} {x1 : Int32} {x2 : Int32} {x3 : Int64} {x5 : Int64} {x7 : Int32} {s0 : Int32} {s2 : Int64} {mc ms : Nat} {o : mm_O} {σ' : mm_S} {r : Int64} {I1 : Nat → Nat → Int32} {J1 : Nat → Nat → Int64} (hcall : mm_Call l X 34 d [.ref 8, .int s0, .int 0, .int (x2 - 1)] (mm_Λ, I, J) 0 0 (.inl (some (.long r))) (mm_Λ, I1, J1)) (hr : mm_Run l X 58 (d + 1) 46 [.ref 17, .int x1, .int x2, .long x3, .null, .long x5, .null, .int x7] [.long r, .long s2] (mm_Λ, I1, J1) mc ms o σ') : mm_Run l X 58 (d + 1) 39 [.ref 17, .int x1, .int x2, .long x3, .null, .long x5, .null, .int x7] [.int s0, .ref 8, .long s2] (mm_Λ, I, J) mc ms o σ' := by
  refine mm_ic d58_39 ci0 ?_
  refine mm_iload_n d58_40 rfl ?_
  refine mm_ic d58_41 ci1 ?_
  refine mm_isub d58_42 ?_
  exact mm_callV0 (as := [.int s0, .int 0, .int (x2 - 1)]) (S := [.long s2]) d58_43 okm34 ln58_46 im34 se34 rfl ⟨_, _, rfl⟩ rfl rfl (Nat.le_of_ble_eq_true rfl) (Nat.le_of_ble_eq_true rfl) hcall hr
theorem b58_46 {l : Launch} {X : Nat × (Nat → Int32)} {d : Nat} {I : Nat → Nat → Int32} {J : Nat → Nat → Int64} {x1 : Int32} {x2 : Int32} {x3 : Int64} {x5 : Int64} {x7 : Int32} {s0 : Int64} {s1 : Int64} {mc ms : Nat} {o : mm_O} {σ' : mm_S} (kt : (lg_cmp s1 s0) < 0 → mm_Run l X 58 (d + 1) 78 [.ref 17, .int x1, .int x2, .long x3, .null, .long x5, .null, .int x7] [] (mm_Λ, I, J) mc ms o σ') (kf : ¬ ((lg_cmp s1 s0) < 0) → mm_Run l X 58 (d + 1) 50 [.ref 17, .int x1, .int x2, .long x3, .null, .long x5, .null, .int x7] [] (mm_Λ, I, J) mc ms o σ') : mm_Run l X 58 (d + 1) 46 [.ref 17, .int x1, .int x2, .long x3, .null, .long x5, .null, .int x7] [.long s0, .long s1] (mm_Λ, I, J) mc ms o σ' := by
  refine mm_lcmp d58_46 ?_
  refine mm_if (tgt := 78) d58_47 (by decide) (fun h => ?_) (fun h => ?_)
  · exact kt h
  · exact kf h
theorem b58_50 {l : Launch} {X : Nat × (Nat → Int32)} {d : Nat} {I : Nat → Nat → Int32} {J : Nat → Nat → Int64} {x1 : Int32} {x2 : Int32} {x3 : Int64} {x5 : Int64} {x7 : Int32} {mc ms : Nat} {o : mm_O} {σ' : mm_S} {r : Int32} {I1 : Nat → Nat → Int32} {J1 : Nat → Nat → Int64} (hcall : mm_Call l X 21 d [.int x1, .int x7] (mm_Λ, I, J) 0 0 (.inl (some (.int r))) (mm_Λ, I1, J1)) (hr : mm_Run l X 58 (d + 1) 62 [.ref 17, .int x1, .int x2, .long x3, .null, .long x5, .null, .int x7] [.int r, .ref 8, .long x5] (mm_Λ, I1, J1) mc ms o σ') : mm_Run l X 58 (d + 1) 50 [.ref 17, .int x1, .int x2, .long x3, .null, .long x5, .null, .int x7] [] (mm_Λ, I, J) mc ms o σ' := by
  refine mm_lload d58_50 rfl ?_
  refine mm_aload_n (v := .ref 17) d58_52 rfl (Or.inl ⟨_, rfl⟩) ?_
  refine mm_getfield (v := .ref 8) d58_53 okc6 fk58_19 rfl rfl (by nofun) ?_
  refine mm_iload_n d58_56 rfl ?_
  refine mm_iload d58_57 rfl ?_
  exact mm_callS0 (as := [.int x1, .int x7]) (S := [.ref 8, .long x5]) d58_59 okm21 ln58_42 st21 rfl rfl (Nat.le_of_ble_eq_true rfl) (Nat.le_of_ble_eq_true rfl) hcall hr
theorem b58_62 {l : Launch} {X : Nat × (Nat → Int32)} {d : Nat} {I : Nat → Nat → Int32} {J : Nat → Nat → Int64} {x1 : Int32} {x2 : Int32} {x3 : Int64} {x5 : Int64} {x7 : Int32} {s0 : Int32} {s2 : Int64} {mc ms : Nat} {o : mm_O} {σ' : mm_S} {r : Int64} {I1 : Nat → Nat → Int32} {J1 : Nat → Nat → Int64} (hcall : mm_Call l X 34 d [.ref 8, .int s0, .int 0, .int (x2 - 1)] (mm_Λ, I, J) 0 0 (.inl (some (.long r))) (mm_Λ, I1, J1)) (hr : mm_Run l X 58 (d + 1) 69 [.ref 17, .int x1, .int x2, .long x3, .null, .long x5, .null, .int x7] [.long r, .long s2] (mm_Λ, I1, J1) mc ms o σ') : mm_Run l X 58 (d + 1) 62 [.ref 17, .int x1, .int x2, .long x3, .null, .long x5, .null, .int x7] [.int s0, .ref 8, .long s2] (mm_Λ, I, J) mc ms o σ' := by
  refine mm_ic d58_62 ci0 ?_
  refine mm_iload_n d58_63 rfl ?_
  refine mm_ic d58_64 ci1 ?_
  refine mm_isub d58_65 ?_
  exact mm_callV0 (as := [.int s0, .int 0, .int (x2 - 1)]) (S := [.long s2]) d58_66 okm34 ln58_46 im34 se34 rfl ⟨_, _, rfl⟩ rfl rfl (Nat.le_of_ble_eq_true rfl) (Nat.le_of_ble_eq_true rfl) hcall hr
theorem b58_69 {l : Launch} {X : Nat × (Nat → Int32)} {d : Nat} {I : Nat → Nat → Int32} {J : Nat → Nat → Int64} {x1 : Int32} {x2 : Int32} {x3 : Int64} {x5 : Int64} {x7 : Int32} {s0 : Int64} {s1 : Int64} {mc ms : Nat} {o : mm_O} {σ' : mm_S} (hr : mm_Run l X 58 (d + 1) 12 [.ref 17, .int x1, .int x2, .long x3, .null, .long (s1 - s0), .null, .int (x7 + 1)] [] (mm_Λ, I, J) mc ms o σ') : mm_Run l X 58 (d + 1) 69 [.ref 17, .int x1, .int x2, .long x3, .null, .long x5, .null, .int x7] [.long s0, .long s1] (mm_Λ, I, J) mc ms o σ' := by
  refine mm_lsub d58_69 ?_
  refine mm_lstore d58_70 (by decide +kernel) ?_
  refine mm_ii d58_72 ci1 rfl (by decide +kernel) ?_
  refine mm_goto (tgt := 12) d58_75 (by decide) ?_
  exact hr
theorem b58_78 {l : Launch} {X : Nat × (Nat → Int32)} {d : Nat} {I : Nat → Nat → Int32} {J : Nat → Nat → Int64} {x1 : Int32} {x2 : Int32} {x3 : Int64} {x5 : Int64} {x7 : Int32} {mc ms : Nat} {o : mm_O} {σ' : mm_S} {I1 : Nat → Nat → Int32} {J1 : Nat → Nat → Int64} (hcall : mm_Call l X 50 d [.ref 11, .int x7] (mm_Λ, I, J) 0 0 (.inl none) (mm_Λ, I1, J1)) (hr : mm_Run l X 58 (d + 1) 87 [.ref 17, .int x1, .int x2, .long x3, .null, .long x5, .null, .int x7] [] (mm_Λ, I1, J1) mc ms o σ') : mm_Run l X 58 (d + 1) 78 [.ref 17, .int x1, .int x2, .long x3, .null, .long x5, .null, .int x7] [] (mm_Λ, I, J) mc ms o σ' := by
  refine mm_aload_n (v := .ref 17) d58_78 rfl (Or.inl ⟨_, rfl⟩) ?_
  refine mm_getfield (v := .ref 11) d58_79 okc6 fk58_23 rfl rfl (by nofun) ?_
  refine mm_iload d58_82 rfl ?_
  exact mm_callV0 (as := [.int x7]) (S := []) d58_84 okm50 ln58_52 im50 se50 rfl ⟨_, _, rfl⟩ rfl rfl (Nat.le_of_ble_eq_true rfl) (Nat.le_of_ble_eq_true rfl) hcall hr
theorem b58_87 {l : Launch} {X : Nat × (Nat → Int32)} {d : Nat} {I : Nat → Nat → Int32} {J : Nat → Nat → Int64} {x1 : Int32} {x2 : Int32} {x3 : Int64} {x5 : Int64} {x7 : Int32} {mc ms : Nat} {o : mm_O} {σ' : mm_S} {r : Int32} {I1 : Nat → Nat → Int32} {J1 : Nat → Nat → Int64} (hcall : mm_Call l X 21 d [.int x1, .int x7] (mm_Λ, I, J) 0 0 (.inl (some (.int r))) (mm_Λ, I1, J1)) (hr : mm_Run l X 58 (d + 1) 94 [.ref 17, .int x1, .int x2, .long x3, .null, .long x5, .null, .int x7] [.int r, .ref 17] (mm_Λ, I1, J1) mc ms o σ') : mm_Run l X 58 (d + 1) 87 [.ref 17, .int x1, .int x2, .long x3, .null, .long x5, .null, .int x7] [] (mm_Λ, I, J) mc ms o σ' := by
  refine mm_aload_n (v := .ref 17) d58_87 rfl (Or.inl ⟨_, rfl⟩) ?_
  refine mm_iload_n d58_88 rfl ?_
  refine mm_iload d58_89 rfl ?_
  exact mm_callS0 (as := [.int x1, .int x7]) (S := [.ref 17]) d58_91 okm21 ln58_42 st21 rfl rfl (Nat.le_of_ble_eq_true rfl) (Nat.le_of_ble_eq_true rfl) hcall hr
theorem b58_94 {l : Launch} {X : Nat × (Nat → Int32)} {d : Nat} {I : Nat → Nat → Int32} {J : Nat → Nat → Int64} {x1 : Int32} {x2 : Int32} {x3 : Int64} {x5 : Int64} {x7 : Int32} {s0 : Int32} {mc ms : Nat} {o : mm_O} {σ' : mm_S} {I1 : Nat → Nat → Int32} {J1 : Nat → Nat → Int64} (hcall : mm_Call l X 59 d [.ref 17, .int s0, .int x2, .long x5] (mm_Λ, I, J) 0 0 (.inl none) (mm_Λ, I1, J1)) (hr : mm_Run l X 58 (d + 1) 100 [.ref 17, .int x1, .int x2, .long x3, .null, .long x5, .null, .int x7] [] (mm_Λ, I1, J1) mc ms o σ') : mm_Run l X 58 (d + 1) 94 [.ref 17, .int x1, .int x2, .long x3, .null, .long x5, .null, .int x7] [.int s0, .ref 17] (mm_Λ, I, J) mc ms o σ' := by
  refine mm_iload_n d58_94 rfl ?_
  refine mm_lload d58_95 rfl ?_
  exact mm_callV0 (as := [.int s0, .int x2, .long x5]) (S := []) d58_97 okm59 ln58_56 im59 se59 rfl ⟨_, _, rfl⟩ rfl rfl (Nat.le_of_ble_eq_true rfl) (Nat.le_of_ble_eq_true rfl) hcall hr
theorem b58_100 {l : Launch} {X : Nat × (Nat → Int32)} {d : Nat} {I : Nat → Nat → Int32} {J : Nat → Nat → Int64} {x1 : Int32} {x2 : Int32} {x3 : Int64} {x5 : Int64} {x7 : Int32} {mc ms : Nat}  : mm_Run l X 58 (d + 1) 100 [.ref 17, .int x1, .int x2, .long x3, .null, .long x5, .null, .int x7] [] (mm_Λ, I, J) mc ms (.inl none) (mm_Λ, I, J) := by
  exact mm_vreturn d58_100 rfl
theorem b59_0 {l : Launch} {X : Nat × (Nat → Int32)} {d : Nat} {I : Nat → Nat → Int32} {J : Nat → Nat → Int64} {x1 : Int32} {x2 : Int32} {x3 : Int64} {mc ms : Nat} {o : mm_O} {σ' : mm_S} {r : Int64} {I1 : Nat → Nat → Int32} {J1 : Nat → Nat → Int64} (hcall : mm_Call l X 60 d [.ref 17, .int x1, .int x2, .long x3] (mm_Λ, I, J) 0 0 (.inl (some (.long r))) (mm_Λ, I1, J1)) (hr : mm_Run l X 59 (d + 1) 7 [.ref 17, .int x1, .int x2, .long x3, .null, .null, .null, .null, .null, .null] [.long r] (mm_Λ, I1, J1) mc ms o σ') : mm_Run l X 59 (d + 1) 0 [.ref 17, .int x1, .int x2, .long x3, .null, .null, .null, .null, .null, .null] [] (mm_Λ, I, J) mc ms o σ' := by
  refine mm_aload_n (v := .ref 17) d59_0 rfl (Or.inl ⟨_, rfl⟩) ?_
  refine mm_iload_n d59_1 rfl ?_
  refine mm_iload_n d59_2 rfl ?_
  refine mm_lload_n d59_3 rfl ?_
  exact mm_callV0 (as := [.int x1, .int x2, .long x3]) (S := []) d59_4 okm60 ln59_59 im60 se60 rfl ⟨_, _, rfl⟩ rfl rfl (Nat.le_of_ble_eq_true rfl) (Nat.le_of_ble_eq_true rfl) hcall hr
theorem b59_7 {l : Launch} {X : Nat × (Nat → Int32)} {d : Nat} {I : Nat → Nat → Int32} {J : Nat → Nat → Int64} {x1 : Int32} {x2 : Int32} {x3 : Int64} {s0 : Int64} {mc ms : Nat} {o : mm_O} {σ' : mm_S} (hr : mm_Run l X 59 (d + 1) 12 [.ref 17, .int x1, .int x2, .long x3, .null, .long s0, .null, .int 0, .null, .null] [] (mm_Λ, I, J) mc ms o σ') : mm_Run l X 59 (d + 1) 7 [.ref 17, .int x1, .int x2, .long x3, .null, .null, .null, .null, .null, .null] [.long s0] (mm_Λ, I, J) mc ms o σ' := by
  refine mm_lstore d59_7 (by decide +kernel) ?_
  refine mm_ic d59_9 ci0 ?_
  refine mm_istore d59_10 (by decide +kernel) ?_
  exact hr
theorem b59_12 {l : Launch} {X : Nat × (Nat → Int32)} {d : Nat} {I : Nat → Nat → Int32} {J : Nat → Nat → Int64} {x1 : Int32} {x2 : Int32} {x3 : Int64} {x5 : Int64} {x7 : Int32} {mc ms : Nat} {o : mm_O} {σ' : mm_S} {r : Int32} {I1 : Nat → Nat → Int32} {J1 : Nat → Nat → Int64} (hcall : mm_Call l X 24 d [.ref 1, .int x1] (mm_Λ, I, J) 0 0 (.inl (some (.int r))) (mm_Λ, I1, J1)) (hr : mm_Run l X 59 (d + 1) 22 [.ref 17, .int x1, .int x2, .long x3, .null, .long x5, .null, .int x7, .null, .null] [.int r, .int x7] (mm_Λ, I1, J1) mc ms o σ') : mm_Run l X 59 (d + 1) 12 [.ref 17, .int x1, .int x2, .long x3, .null, .long x5, .null, .int x7, .null, .null] [] (mm_Λ, I, J) mc ms o σ' := by
  refine mm_iload d59_12 rfl ?_
  refine mm_aload_n (v := .ref 17) d59_14 rfl (Or.inl ⟨_, rfl⟩) ?_
  refine mm_getfield (v := .ref 1) d59_15 okc6 fk59_15 rfl rfl (by nofun) ?_
  refine mm_iload_n d59_18 rfl ?_
  exact mm_callV0 (as := [.int x1]) (S := [.int x7]) d59_19 okm24 ln59_63 im24 se24 rfl ⟨_, _, rfl⟩ rfl rfl (Nat.le_of_ble_eq_true rfl) (Nat.le_of_ble_eq_true rfl) hcall hr
theorem b59_22 {l : Launch} {X : Nat × (Nat → Int32)} {d : Nat} {I : Nat → Nat → Int32} {J : Nat → Nat → Int64} {x1 : Int32} {x2 : Int32} {x3 : Int64} {x5 : Int64} {x7 : Int32} {s0 : Int32} {s1 : Int32} {mc ms : Nat} {o : mm_O} {σ' : mm_S} (kt : s0 ≤ s1 → mm_Run l X 59 (d + 1) 85 [.ref 17, .int x1, .int x2, .long x3, .null, .long x5, .null, .int x7, .null, .null] [] (mm_Λ, I, J) mc ms o σ') (kf : ¬ (s0 ≤ s1) → mm_Run l X 59 (d + 1) 25 [.ref 17, .int x1, .int x2, .long x3, .null, .long x5, .null, .int x7, .null, .null] [] (mm_Λ, I, J) mc ms o σ') : mm_Run l X 59 (d + 1) 22 [.ref 17, .int x1, .int x2, .long x3, .null, .long x5, .null, .int x7, .null, .null] [.int s0, .int s1] (mm_Λ, I, J) mc ms o σ' := by
  refine mm_icmp (tgt := 85) d59_22 (by decide) (fun h => ?_) (fun h => ?_)
  · exact kt h
  · exact kf h
theorem b59_25 {l : Launch} {X : Nat × (Nat → Int32)} {d : Nat} {I : Nat → Nat → Int32} {J : Nat → Nat → Int64} {x1 : Int32} {x2 : Int32} {x3 : Int64} {x5 : Int64} {x7 : Int32} {mc ms : Nat} {o : mm_O} {σ' : mm_S} {r : Int64} {I1 : Nat → Nat → Int32} {J1 : Nat → Nat → Int64} (hcall : mm_Call l X 62 d [.ref 17, .int x1, .int x2, .int x7] (mm_Λ, I, J) 0 0 (.inl (some (.long r))) (mm_Λ, I1, J1)) (hr : mm_Run l X 59 (d + 1) 33 [.ref 17, .int x1, .int x2, .long x3, .null, .long x5, .null, .int x7, .null, .null] [.long r] (mm_Λ, I1, J1) mc ms o σ') : mm_Run l X 59 (d + 1) 25 [.ref 17, .int x1, .int x2, .long x3, .null, .long x5, .null, .int x7, .null, .null] [] (mm_Λ, I, J) mc ms o σ' := by
  refine mm_aload_n (v := .ref 17) d59_25 rfl (Or.inl ⟨_, rfl⟩) ?_
  refine mm_iload_n d59_26 rfl ?_
  refine mm_iload_n d59_27 rfl ?_
  refine mm_iload d59_28 rfl ?_
  exact mm_callV0 (as := [.int x1, .int x2, .int x7]) (S := []) d59_30 okm62 ln59_66 im62 se62 rfl ⟨_, _, rfl⟩ rfl rfl (Nat.le_of_ble_eq_true rfl) (Nat.le_of_ble_eq_true rfl) hcall hr
theorem b59_33 {l : Launch} {X : Nat × (Nat → Int32)} {d : Nat} {I : Nat → Nat → Int32} {J : Nat → Nat → Int64} {x1 : Int32} {x2 : Int32} {x3 : Int64} {x5 : Int64} {x7 : Int32} {s0 : Int64} {mc ms : Nat} {o : mm_O} {σ' : mm_S} (kt : (lg_cmp s0 0) ≤ 0 → mm_Run l X 59 (d + 1) 79 [.ref 17, .int x1, .int x2, .long x3, .null, .long x5, .null, .int x7, .long s0, .null] [] (mm_Λ, I, J) mc ms o σ') (kf : ¬ ((lg_cmp s0 0) ≤ 0) → mm_Run l X 59 (d + 1) 42 [.ref 17, .int x1, .int x2, .long x3, .null, .long x5, .null, .int x7, .long s0, .null] [] (mm_Λ, I, J) mc ms o σ') : mm_Run l X 59 (d + 1) 33 [.ref 17, .int x1, .int x2, .long x3, .null, .long x5, .null, .int x7, .null, .null] [.long s0] (mm_Λ, I, J) mc ms o σ' := by
  refine mm_lstore d59_33 (by decide +kernel) ?_
  refine mm_lload d59_35 rfl ?_
  refine mm_lc d59_37 lc0 ?_
  refine mm_lcmp d59_38 ?_
  refine mm_if (tgt := 79) d59_39 (by decide) (fun h => ?_) (fun h => ?_)
  · exact kt h
  · exact kf h
theorem b59_42 {l : Launch} {X : Nat × (Nat → Int32)} {d : Nat} {I : Nat → Nat → Int32} {J : Nat → Nat → Int64} {x1 : Int32} {x2 : Int32} {x3 : Int64} {x5 : Int64} {x7 : Int32} {x8 : Int64} {mc ms : Nat} {o : mm_O} {σ' : mm_S} {r : Int32} {I1 : Nat → Nat → Int32} {J1 : Nat → Nat → Int64} (hcall : mm_Call l X 26 d [.ref 1, .int x1, .int x7] (mm_Λ, I, J) 0 0 (.inl (some (.int r))) (mm_Λ, I1, J1)) (hr : mm_Run l X 59 (d + 1) 53 [.ref 17, .int x1, .int x2, .long x3, .null, .long x5, .null, .int x7, .long x8, .null] [.int r, .ref 17] (mm_Λ, I1, J1) mc ms o σ') : mm_Run l X 59 (d + 1) 42 [.ref 17, .int x1, .int x2, .long x3, .null, .long x5, .null, .int x7, .long x8, .null] [] (mm_Λ, I, J) mc ms o σ' := by
  refine mm_aload_n (v := .ref 17) d59_42 rfl (Or.inl ⟨_, rfl⟩) ?_
  refine mm_aload_n (v := .ref 17) d59_43 rfl (Or.inl ⟨_, rfl⟩) ?_
  refine mm_getfield (v := .ref 1) d59_44 okc6 fk59_15 rfl rfl (by nofun) ?_
  refine mm_iload_n d59_47 rfl ?_
  refine mm_iload d59_48 rfl ?_
  exact mm_callV0 (as := [.int x1, .int x7]) (S := [.ref 17]) d59_50 okm26 ln59_69 im26 se26 rfl ⟨_, _, rfl⟩ rfl rfl (Nat.le_of_ble_eq_true rfl) (Nat.le_of_ble_eq_true rfl) hcall hr
theorem b59_53 {l : Launch} {X : Nat × (Nat → Int32)} {d : Nat} {I : Nat → Nat → Int32} {J : Nat → Nat → Int64} {x1 : Int32} {x2 : Int32} {x3 : Int64} {x5 : Int64} {x7 : Int32} {x8 : Int64} {s0 : Int32} {mc ms : Nat} {o : mm_O} {σ' : mm_S} (i63 : vp_in ((x2 * 3) + x7) 39) (n68 : ¬ x8 = 0) {I1 : Nat → Nat → Int32} {J1 : Nat → Nat → Int64} (hcall : mm_Call l X 58 d [.ref 17, .int s0, .int (I 18 ((x2 * 3) + x7).toNatClampNeg), .long (x5 / x8)] (mm_Λ, I, J) 0 0 (.inl none) (mm_Λ, I1, J1)) (hr : mm_Run l X 59 (d + 1) 72 [.ref 17, .int x1, .int x2, .long x3, .null, .long x5, .null, .int x7, .long x8, .null] [] (mm_Λ, I1, J1) mc ms o σ') : mm_Run l X 59 (d + 1) 53 [.ref 17, .int x1, .int x2, .long x3, .null, .long x5, .null, .int x7, .long x8, .null] [.int s0, .ref 17] (mm_Λ, I, J) mc ms o σ' := by
  refine mm_aload_n (v := .ref 17) d59_53 rfl (Or.inl ⟨_, rfl⟩) ?_
  refine mm_getfield (v := .ref 18) d59_54 okc6 fk59_9 rfl rfl (by nofun) ?_
  refine mm_iload_n d59_57 rfl ?_
  refine mm_ic d59_58 ci3 ?_
  refine mm_imul d59_59 ?_
  refine mm_iload d59_60 rfl ?_
  refine mm_iadd d59_62 ?_
  refine mm_iaload d59_63 rfl i63 ?_
  refine mm_lload d59_64 rfl ?_
  refine mm_lload d59_66 rfl ?_
  refine mm_ldiv d59_68 n68 ?_
  exact mm_callV0 (as := [.int s0, .int (I 18 ((x2 * 3) + x7).toNatClampNeg), .long (x5 / x8)]) (S := []) d59_69 okm58 ln59_32 im58 se58 rfl ⟨_, _, rfl⟩ rfl rfl (Nat.le_of_ble_eq_true rfl) (Nat.le_of_ble_eq_true rfl) hcall hr
theorem b59_72 {l : Launch} {X : Nat × (Nat → Int32)} {d : Nat} {I : Nat → Nat → Int32} {J : Nat → Nat → Int64} {x1 : Int32} {x2 : Int32} {x3 : Int64} {x5 : Int64} {x7 : Int32} {x8 : Int64} {mc ms : Nat} {o : mm_O} {σ' : mm_S} (n76 : ¬ x8 = 0) (hr : mm_Run l X 59 (d + 1) 79 [.ref 17, .int x1, .int x2, .long x3, .null, .long (x5 - x5 / x8 * x8), .null, .int x7, .long x8, .null] [] (mm_Λ, I, J) mc ms o σ') : mm_Run l X 59 (d + 1) 72 [.ref 17, .int x1, .int x2, .long x3, .null, .long x5, .null, .int x7, .long x8, .null] [] (mm_Λ, I, J) mc ms o σ' := by
  refine mm_lload d59_72 rfl ?_
  refine mm_lload d59_74 rfl ?_
  refine mm_lrem d59_76 n76 ?_
  refine mm_lstore d59_77 (by decide +kernel) ?_
  exact hr
theorem b59_79 {l : Launch} {X : Nat × (Nat → Int32)} {d : Nat} {I : Nat → Nat → Int32} {J : Nat → Nat → Int64} {x1 : Int32} {x2 : Int32} {x3 : Int64} {x5 : Int64} {x7 : Int32} {x8 : Int64} {mc ms : Nat} {o : mm_O} {σ' : mm_S} (hr : mm_Run l X 59 (d + 1) 12 [.ref 17, .int x1, .int x2, .long x3, .null, .long x5, .null, .int (x7 + 1), .null, .null] [] (mm_Λ, I, J) mc ms o σ') : mm_Run l X 59 (d + 1) 79 [.ref 17, .int x1, .int x2, .long x3, .null, .long x5, .null, .int x7, .long x8, .null] [] (mm_Λ, I, J) mc ms o σ' := by
  refine mm_ii d59_79 ci1 rfl (by decide +kernel) ?_
  refine mm_goto (tgt := 12) d59_82 (by decide) ?_
  exact mm_forget hr (by exact ⟨rfl, rfl, rfl, rfl, rfl, rfl, trivial⟩)
theorem b59_85 {l : Launch} {X : Nat × (Nat → Int32)} {d : Nat} {I : Nat → Nat → Int32} {J : Nat → Nat → Int64} {x1 : Int32} {x2 : Int32} {x3 : Int64} {x5 : Int64} {x7 : Int32} {mc ms : Nat}  : mm_Run l X 59 (d + 1) 85 [.ref 17, .int x1, .int x2, .long x3, .null, .long x5, .null, .int x7, .null, .null] [] (mm_Λ, I, J) mc ms (.inl none) (mm_Λ, I, J) := by
  exact mm_vreturn d59_85 rfl
theorem b60_0 {l : Launch} {X : Nat × (Nat → Int32)} {d : Nat} {I : Nat → Nat → Int32} {J : Nat → Nat → Int64} {x1 : Int32} {x2 : Int32} {x3 : Int64} {mc ms : Nat} {o : mm_O} {σ' : mm_S} (hr : mm_Run l X 60 (d + 1) 14 [.ref 17, .int x1, .int x2, .long x3, .null, .long x3, .null, .long 1, .null, .int (x2 - 1), .int 0, .null, .null, .null, .null] [] (mm_Λ, I, J) mc ms o σ') : mm_Run l X 60 (d + 1) 0 [.ref 17, .int x1, .int x2, .long x3, .null, .null, .null, .null, .null, .null, .null, .null, .null, .null, .null] [] (mm_Λ, I, J) mc ms o σ' := by
  refine mm_lload_n d60_0 rfl ?_
  refine mm_lstore d60_1 (by decide +kernel) ?_
  refine mm_lc d60_3 lc1 ?_
  refine mm_lstore d60_4 (by decide +kernel) ?_
  refine mm_iload_n d60_6 rfl ?_
  refine mm_ic d60_7 ci1 ?_
  refine mm_isub d60_8 ?_
  refine mm_istore d60_9 (by decide +kernel) ?_
  refine mm_ic d60_11 ci0 ?_
  refine mm_istore d60_12 (by decide +kernel) ?_
  exact hr
theorem b60_14 {l : Launch} {X : Nat × (Nat → Int32)} {d : Nat} {I : Nat → Nat → Int32} {J : Nat → Nat → Int64} {x1 : Int32} {x2 : Int32} {x3 : Int64} {x5 : Int64} {x7 : Int64} {x9 : Int32} {x10 : Int32} {mc ms : Nat} {o : mm_O} {σ' : mm_S} {r : Int32} {I1 : Nat → Nat → Int32} {J1 : Nat → Nat → Int64} (hcall : mm_Call l X 24 d [.ref 1, .int x1] (mm_Λ, I, J) 0 0 (.inl (some (.int r))) (mm_Λ, I1, J1)) (hr : mm_Run l X 60 (d + 1) 24 [.ref 17, .int x1, .int x2, .long x3, .null, .long x5, .null, .long x7, .null, .int x9, .int x10, .null, .null, .null, .null] [.int r, .int x10] (mm_Λ, I1, J1) mc ms o σ') : mm_Run l X 60 (d + 1) 14 [.ref 17, .int x1, .int x2, .long x3, .null, .long x5, .null, .long x7, .null, .int x9, .int x10, .null, .null, .null, .null] [] (mm_Λ, I, J) mc ms o σ' := by
  refine mm_iload d60_14 rfl ?_
  refine mm_aload_n (v := .ref 17) d60_16 rfl (Or.inl ⟨_, rfl⟩) ?_
  refine mm_getfield (v := .ref 1) d60_17 okc6 fk60_15 rfl rfl (by nofun) ?_
  refine mm_iload_n d60_20 rfl ?_
  exact mm_callV0 (as := [.int x1]) (S := [.int x10]) d60_21 okm24 ln60_63 im24 se24 rfl ⟨_, _, rfl⟩ rfl rfl (Nat.le_of_ble_eq_true rfl) (Nat.le_of_ble_eq_true rfl) hcall hr
theorem b60_24 {l : Launch} {X : Nat × (Nat → Int32)} {d : Nat} {I : Nat → Nat → Int32} {J : Nat → Nat → Int64} {x1 : Int32} {x2 : Int32} {x3 : Int64} {x5 : Int64} {x7 : Int64} {x9 : Int32} {x10 : Int32} {s0 : Int32} {s1 : Int32} {mc ms : Nat} {o : mm_O} {σ' : mm_S} (kt : s0 ≤ s1 → mm_Run l X 60 (d + 1) 144 [.ref 17, .int x1, .int x2, .long x3, .null, .long x5, .null, .long x7, .null, .int x9, .int x10, .null, .null, .null, .null] [] (mm_Λ, I, J) mc ms o σ') (kf : ¬ (s0 ≤ s1) → mm_Run l X 60 (d + 1) 27 [.ref 17, .int x1, .int x2, .long x3, .null, .long x5, .null, .long x7, .null, .int x9, .int x10, .null, .null, .null, .null] [] (mm_Λ, I, J) mc ms o σ') : mm_Run l X 60 (d + 1) 24 [.ref 17, .int x1, .int x2, .long x3, .null, .long x5, .null, .long x7, .null, .int x9, .int x10, .null, .null, .null, .null] [.int s0, .int s1] (mm_Λ, I, J) mc ms o σ' := by
  refine mm_icmp (tgt := 144) d60_24 (by decide) (fun h => ?_) (fun h => ?_)
  · exact kt h
  · exact kf h
theorem b60_27 {l : Launch} {X : Nat × (Nat → Int32)} {d : Nat} {I : Nat → Nat → Int32} {J : Nat → Nat → Int64} {x1 : Int32} {x2 : Int32} {x3 : Int64} {x5 : Int64} {x7 : Int64} {x9 : Int32} {x10 : Int32} {mc ms : Nat} {o : mm_O} {σ' : mm_S} {r : Int32} {I1 : Nat → Nat → Int32} {J1 : Nat → Nat → Int64} (hcall : mm_Call l X 26 d [.ref 1, .int x1, .int x10] (mm_Λ, I, J) 0 0 (.inl (some (.int r))) (mm_Λ, I1, J1)) (hr : mm_Run l X 60 (d + 1) 37 [.ref 17, .int x1, .int x2, .long x3, .null, .long x5, .null, .long x7, .null, .int x9, .int x10, .null, .null, .null, .null] [.int r] (mm_Λ, I1, J1) mc ms o σ') : mm_Run l X 60 (d + 1) 27 [.ref 17, .int x1, .int x2, .long x3, .null, .long x5, .null, .long x7, .null, .int x9, .int x10, .null, .null, .null, .null] [] (mm_Λ, I, J) mc ms o σ' := by
  refine mm_aload_n (v := .ref 17) d60_27 rfl (Or.inl ⟨_, rfl⟩) ?_
  refine mm_getfield (v := .ref 1) d60_28 okc6 fk60_15 rfl rfl (by nofun) ?_
  refine mm_iload_n d60_31 rfl ?_
  refine mm_iload d60_32 rfl ?_
  exact mm_callV0 (as := [.int x1, .int x10]) (S := []) d60_34 okm26 ln60_69 im26 se26 rfl ⟨_, _, rfl⟩ rfl rfl (Nat.le_of_ble_eq_true rfl) (Nat.le_of_ble_eq_true rfl) hcall hr
theorem b60_37 {l : Launch} {X : Nat × (Nat → Int32)} {d : Nat} {I : Nat → Nat → Int32} {J : Nat → Nat → Int64} {x1 : Int32} {x2 : Int32} {x3 : Int64} {x5 : Int64} {x7 : Int64} {x9 : Int32} {x10 : Int32} {s0 : Int32} {mc ms : Nat} {o : mm_O} {σ' : mm_S} {r : Int64} {I1 : Nat → Nat → Int32} {J1 : Nat → Nat → Int64} (hcall : mm_Call l X 61 d [.ref 17, .int x1, .int x10, .int 1, .int x9] (mm_Λ, I, J) 0 0 (.inl (some (.long r))) (mm_Λ, I1, J1)) (hr : mm_Run l X 60 (d + 1) 55 [.ref 17, .int x1, .int x2, .long x3, .null, .long x5, .null, .long x7, .null, .int x9, .int x10, .int s0, .int 1, .null, .null] [.long r, .long x7] (mm_Λ, I1, J1) mc ms o σ') : mm_Run l X 60 (d + 1) 37 [.ref 17, .int x1, .int x2, .long x3, .null, .long x5, .null, .long x7, .null, .int x9, .int x10, .null, .null, .null, .null] [.int s0] (mm_Λ, I, J) mc ms o σ' := by
  refine mm_istore d60_37 (by decide +kernel) ?_
  refine mm_ic d60_39 ci1 ?_
  refine mm_istore d60_40 (by decide +kernel) ?_
  refine mm_lload d60_42 rfl ?_
  refine mm_aload_n (v := .ref 17) d60_44 rfl (Or.inl ⟨_, rfl⟩) ?_
  refine mm_iload_n d60_45 rfl ?_
  refine mm_iload d60_46 rfl ?_
  refine mm_iload d60_48 rfl ?_
  refine mm_iload d60_50 rfl ?_
  exact mm_callV0 (as := [.int x1, .int x10, .int 1, .int x9]) (S := [.long x7]) d60_52 okm61 ln60_72 im61 se61 rfl ⟨_, _, rfl⟩ rfl rfl (Nat.le_of_ble_eq_true rfl) (Nat.le_of_ble_eq_true rfl) hcall hr
theorem b60_55 {l : Launch} {X : Nat × (Nat → Int32)} {d : Nat} {I : Nat → Nat → Int32} {J : Nat → Nat → Int64} {x1 : Int32} {x2 : Int32} {x3 : Int64} {x5 : Int64} {x7 : Int64} {x9 : Int32} {x10 : Int32} {x11 : Int32} {x12 : Int32} {s0 : Int64} {s1 : Int64} {mc ms : Nat} {o : mm_O} {σ' : mm_S} (hr : mm_Run l X 60 (d + 1) 58 [.ref 17, .int x1, .int x2, .long x3, .null, .long x5, .null, .long x7, .null, .int x9, .int x10, .int x11, .int x12, .long (s1 * s0), .null] [] (mm_Λ, I, J) mc ms o σ') : mm_Run l X 60 (d + 1) 55 [.ref 17, .int x1, .int x2, .long x3, .null, .long x5, .null, .long x7, .null, .int x9, .int x10, .int x11, .int x12, .null, .null] [.long s0, .long s1] (mm_Λ, I, J) mc ms o σ' := by
  refine mm_lmul d60_55 ?_
  refine mm_lstore d60_56 (by decide +kernel) ?_
  exact hr
theorem b60_58 {l : Launch} {X : Nat × (Nat → Int32)} {d : Nat} {I : Nat → Nat → Int32} {J : Nat → Nat → Int64} {x1 : Int32} {x2 : Int32} {x3 : Int64} {x5 : Int64} {x7 : Int64} {x9 : Int32} {x10 : Int32} {x11 : Int32} {x12 : Int32} {x13 : Int64} {mc ms : Nat} {o : mm_O} {σ' : mm_S} (kt : x9 ≤ x12 → mm_Run l X 60 (d + 1) 102 [.ref 17, .int x1, .int x2, .long x3, .null, .long x5, .null, .long x7, .null, .int x9, .int x10, .int x11, .int x12, .long x13, .null] [] (mm_Λ, I, J) mc ms o σ') (kf : ¬ (x9 ≤ x12) → mm_Run l X 60 (d + 1) 65 [.ref 17, .int x1, .int x2, .long x3, .null, .long x5, .null, .long x7, .null, .int x9, .int x10, .int x11, .int x12, .long x13, .null] [] (mm_Λ, I, J) mc ms o σ') : mm_Run l X 60 (d + 1) 58 [.ref 17, .int x1, .int x2, .long x3, .null, .long x5, .null, .long x7, .null, .int x9, .int x10, .int x11, .int x12, .long x13, .null] [] (mm_Λ, I, J) mc ms o σ' := by
  refine mm_iload d60_58 rfl ?_
  refine mm_iload d60_60 rfl ?_
  refine mm_icmp (tgt := 102) d60_62 (by decide) (fun h => ?_) (fun h => ?_)
  · exact kt h
  · exact kf h
theorem b60_65 {l : Launch} {X : Nat × (Nat → Int32)} {d : Nat} {I : Nat → Nat → Int32} {J : Nat → Nat → Int64} {x1 : Int32} {x2 : Int32} {x3 : Int64} {x5 : Int64} {x7 : Int64} {x9 : Int32} {x10 : Int32} {x11 : Int32} {x12 : Int32} {x13 : Int64} {mc ms : Nat} {o : mm_O} {σ' : mm_S} (kt : (lg_cmp x5 x13) < 0 → mm_Run l X 60 (d + 1) 102 [.ref 17, .int x1, .int x2, .long x3, .null, .long x5, .null, .long x7, .null, .int x9, .int x10, .int x11, .int x12, .long x13, .null] [] (mm_Λ, I, J) mc ms o σ') (kf : ¬ ((lg_cmp x5 x13) < 0) → mm_Run l X 60 (d + 1) 73 [.ref 17, .int x1, .int x2, .long x3, .null, .long x5, .null, .long x7, .null, .int x9, .int x10, .int x11, .int x12, .long x13, .null] [] (mm_Λ, I, J) mc ms o σ') : mm_Run l X 60 (d + 1) 65 [.ref 17, .int x1, .int x2, .long x3, .null, .long x5, .null, .long x7, .null, .int x9, .int x10, .int x11, .int x12, .long x13, .null] [] (mm_Λ, I, J) mc ms o σ' := by
  refine mm_lload d60_65 rfl ?_
  refine mm_lload d60_67 rfl ?_
  refine mm_lcmp d60_69 ?_
  refine mm_if (tgt := 102) d60_70 (by decide) (fun h => ?_) (fun h => ?_)
  · exact kt h
  · exact kf h
theorem b60_73 {l : Launch} {X : Nat × (Nat → Int32)} {d : Nat} {I : Nat → Nat → Int32} {J : Nat → Nat → Int64} {x1 : Int32} {x2 : Int32} {x3 : Int64} {x5 : Int64} {x7 : Int64} {x9 : Int32} {x10 : Int32} {x11 : Int32} {x12 : Int32} {x13 : Int64} {mc ms : Nat} {o : mm_O} {σ' : mm_S} {r : Int64} {I1 : Nat → Nat → Int32} {J1 : Nat → Nat → Int64} (hcall : mm_Call l X 61 d [.ref 17, .int x1, .int x10, .int (x12 + 1), .int x9] (mm_Λ, I, J) 0 0 (.inl (some (.long r))) (mm_Λ, I1, J1)) (hr : mm_Run l X 60 (d + 1) 96 [.ref 17, .int x1, .int x2, .long x3, .null, .long (x5 - x13), .null, .long x7, .null, .int x9, .int x10, .int x11, .int (x12 + 1), .long x13, .null] [.long r, .long x7] (mm_Λ, I1, J1) mc ms o σ') : mm_Run l X 60 (d + 1) 73 [.ref 17, .int x1, .int x2, .long x3, .null, .long x5, .null, .long x7, .null, .int x9, .int x10, .int x11, .int x12, .long x13, .null] [] (mm_Λ, I, J) mc ms o σ' := by
  refine mm_lload d60_73 rfl ?_
  refine mm_lload d60_75 rfl ?_
  refine mm_lsub d60_77 ?_
  refine mm_lstore d60_78 (by decide +kernel) ?_
  refine mm_ii d60_80 ci1 rfl (by decide +kernel) ?_
  refine mm_lload d60_83 rfl ?_
  refine mm_aload_n (v := .ref 17) d60_85 rfl (Or.inl ⟨_, rfl⟩) ?_
  refine mm_iload_n d60_86 rfl ?_
  refine mm_iload d60_87 rfl ?_
  refine mm_iload d60_89 rfl ?_
  refine mm_iload d60_91 rfl ?_
  exact mm_callV0 (as := [.int x1, .int x10, .int (x12 + 1), .int x9]) (S := [.long x7]) d60_93 okm61 ln60_72 im61 se61 rfl ⟨_, _, rfl⟩ rfl rfl (Nat.le_of_ble_eq_true rfl) (Nat.le_of_ble_eq_true rfl) hcall hr
theorem b60_96 {l : Launch} {X : Nat × (Nat → Int32)} {d : Nat} {I : Nat → Nat → Int32} {J : Nat → Nat → Int64} {x1 : Int32} {x2 : Int32} {x3 : Int64} {x5 : Int64} {x7 : Int64} {x9 : Int32} {x10 : Int32} {x11 : Int32} {x12 : Int32} {x13 : Int64} {s0 : Int64} {s1 : Int64} {mc ms : Nat} {o : mm_O} {σ' : mm_S} (hr : mm_Run l X 60 (d + 1) 58 [.ref 17, .int x1, .int x2, .long x3, .null, .long x5, .null, .long x7, .null, .int x9, .int x10, .int x11, .int x12, .long (s1 * s0), .null] [] (mm_Λ, I, J) mc ms o σ') : mm_Run l X 60 (d + 1) 96 [.ref 17, .int x1, .int x2, .long x3, .null, .long x5, .null, .long x7, .null, .int x9, .int x10, .int x11, .int x12, .long x13, .null] [.long s0, .long s1] (mm_Λ, I, J) mc ms o σ' := by
  refine mm_lmul d60_96 ?_
  refine mm_lstore d60_97 (by decide +kernel) ?_
  refine mm_goto (tgt := 58) d60_99 (by decide) ?_
  exact hr
theorem b60_102 {l : Launch} {X : Nat × (Nat → Int32)} {d : Nat} {I : Nat → Nat → Int32} {J : Nat → Nat → Int64} {x1 : Int32} {x2 : Int32} {x3 : Int64} {x5 : Int64} {x7 : Int64} {x9 : Int32} {x10 : Int32} {x11 : Int32} {x12 : Int32} {x13 : Int64} {mc ms : Nat} {o : mm_O} {σ' : mm_S} (i114 : vp_in ((x2 * 3) + x10) 39) {r : Int64} {I1 : Nat → Nat → Int32} {J1 : Nat → Nat → Int64} (hcall : mm_Call l X 33 d [.ref 8, .int x11, .int x12] (mm_Λ, (mm_set I 18 ((x2 * 3) + x10).toNatClampNeg x12), J) 0 0 (.inl (some (.long r))) (mm_Λ, I1, J1)) (hr : mm_Run l X 60 (d + 1) 128 [.ref 17, .int x1, .int x2, .long x3, .null, .long x5, .null, .long x7, .null, .int x9, .int x10, .int x11, .int x12, .long x13, .null] [.long r, .long x7] (mm_Λ, I1, J1) mc ms o σ') : mm_Run l X 60 (d + 1) 102 [.ref 17, .int x1, .int x2, .long x3, .null, .long x5, .null, .long x7, .null, .int x9, .int x10, .int x11, .int x12, .long x13, .null] [] (mm_Λ, I, J) mc ms o σ' := by
  refine mm_aload_n (v := .ref 17) d60_102 rfl (Or.inl ⟨_, rfl⟩) ?_
  refine mm_getfield (v := .ref 18) d60_103 okc6 fk60_9 rfl rfl (by nofun) ?_
  refine mm_iload_n d60_106 rfl ?_
  refine mm_ic d60_107 ci3 ?_
  refine mm_imul d60_108 ?_
  refine mm_iload d60_109 rfl ?_
  refine mm_iadd d60_111 ?_
  refine mm_iload d60_112 rfl ?_
  refine mm_iastore d60_114 rfl i114 ?_
  refine mm_lload d60_115 rfl ?_
  refine mm_aload_n (v := .ref 17) d60_117 rfl (Or.inl ⟨_, rfl⟩) ?_
  refine mm_getfield (v := .ref 8) d60_118 okc6 fk60_19 rfl rfl (by nofun) ?_
  refine mm_iload d60_121 rfl ?_
  refine mm_iload d60_123 rfl ?_
  exact mm_callV0 (as := [.int x11, .int x12]) (S := [.long x7]) d60_125 okm33 ln60_76 im33 se33 rfl ⟨_, _, rfl⟩ rfl rfl (Nat.le_of_ble_eq_true rfl) (Nat.le_of_ble_eq_true rfl) hcall hr
theorem b60_128 {l : Launch} {X : Nat × (Nat → Int32)} {d : Nat} {I : Nat → Nat → Int32} {J : Nat → Nat → Int64} {x1 : Int32} {x2 : Int32} {x3 : Int64} {x5 : Int64} {x7 : Int64} {x9 : Int32} {x10 : Int32} {x11 : Int32} {x12 : Int32} {x13 : Int64} {s0 : Int64} {s1 : Int64} {mc ms : Nat} {o : mm_O} {σ' : mm_S} (hr : mm_Run l X 60 (d + 1) 14 [.ref 17, .int x1, .int x2, .long x3, .null, .long x5, .null, .long (s1 * s0), .null, .int (x9 - x12), .int (x10 + 1), .null, .null, .null, .null] [] (mm_Λ, I, J) mc ms o σ') : mm_Run l X 60 (d + 1) 128 [.ref 17, .int x1, .int x2, .long x3, .null, .long x5, .null, .long x7, .null, .int x9, .int x10, .int x11, .int x12, .long x13, .null] [.long s0, .long s1] (mm_Λ, I, J) mc ms o σ' := by
  refine mm_lmul d60_128 ?_
  refine mm_lstore d60_129 (by decide +kernel) ?_
  refine mm_iload d60_131 rfl ?_
  refine mm_iload d60_133 rfl ?_
  refine mm_isub d60_135 ?_
  refine mm_istore d60_136 (by decide +kernel) ?_
  refine mm_ii d60_138 ci1 rfl (by decide +kernel) ?_
  refine mm_goto (tgt := 14) d60_141 (by decide) ?_
  exact mm_forget hr (by exact ⟨rfl, rfl, rfl, rfl, rfl, rfl, rfl, rfl, trivial⟩)
theorem b60_144 {l : Launch} {X : Nat × (Nat → Int32)} {d : Nat} {I : Nat → Nat → Int32} {J : Nat → Nat → Int64} {x1 : Int32} {x2 : Int32} {x3 : Int64} {x5 : Int64} {x7 : Int64} {x9 : Int32} {x10 : Int32} {mc ms : Nat}  : mm_Run l X 60 (d + 1) 144 [.ref 17, .int x1, .int x2, .long x3, .null, .long x5, .null, .long x7, .null, .int x9, .int x10, .null, .null, .null, .null] [] (mm_Λ, I, J) mc ms (.inl (some (.long x5))) (mm_Λ, I, J) := by
  refine mm_lload d60_144 rfl ?_
  exact mm_lreturn d60_146 rfl
theorem b61_0 {l : Launch} {X : Nat × (Nat → Int32)} {d : Nat} {I : Nat → Nat → Int32} {J : Nat → Nat → Int64} {x1 : Int32} {x2 : Int32} {x3 : Int32} {x4 : Int32} {mc ms : Nat} {o : mm_O} {σ' : mm_S} (kt : x3 ≤ x4 → mm_Run l X 61 (d + 1) 8 [.ref 17, .int x1, .int x2, .int x3, .int x4] [] (mm_Λ, I, J) mc ms o σ') (kf : ¬ (x3 ≤ x4) → mm_Run l X 61 (d + 1) 6 [.ref 17, .int x1, .int x2, .int x3, .int x4] [] (mm_Λ, I, J) mc ms o σ') : mm_Run l X 61 (d + 1) 0 [.ref 17, .int x1, .int x2, .int x3, .int x4] [] (mm_Λ, I, J) mc ms o σ' := by
  refine mm_iload_n d61_0 rfl ?_
  refine mm_iload d61_1 rfl ?_
  refine mm_icmp (tgt := 8) d61_3 (by decide) (fun h => ?_) (fun h => ?_)
  · exact kt h
  · exact kf h
theorem b61_6 {l : Launch} {X : Nat × (Nat → Int32)} {d : Nat} {I : Nat → Nat → Int32} {J : Nat → Nat → Int64} {x1 : Int32} {x2 : Int32} {x3 : Int32} {x4 : Int32} {mc ms : Nat}  : mm_Run l X 61 (d + 1) 6 [.ref 17, .int x1, .int x2, .int x3, .int x4] [] (mm_Λ, I, J) mc ms (.inl (some (.long 0))) (mm_Λ, I, J) := by
  refine mm_lc d61_6 lc0 ?_
  exact mm_lreturn d61_7 rfl
theorem b61_8 {l : Launch} {X : Nat × (Nat → Int32)} {d : Nat} {I : Nat → Nat → Int32} {J : Nat → Nat → Int64} {x1 : Int32} {x2 : Int32} {x3 : Int32} {x4 : Int32} {mc ms : Nat} {o : mm_O} {σ' : mm_S} {r : Int32} {I1 : Nat → Nat → Int32} {J1 : Nat → Nat → Int64} (hcall : mm_Call l X 26 d [.ref 1, .int x1, .int x2] (mm_Λ, I, J) 0 0 (.inl (some (.int r))) (mm_Λ, I1, J1)) (hr : mm_Run l X 61 (d + 1) 21 [.ref 17, .int x1, .int x2, .int x3, .int x4] [.int r, .ref 8] (mm_Λ, I1, J1) mc ms o σ') : mm_Run l X 61 (d + 1) 8 [.ref 17, .int x1, .int x2, .int x3, .int x4] [] (mm_Λ, I, J) mc ms o σ' := by
  refine mm_aload_n (v := .ref 17) d61_8 rfl (Or.inl ⟨_, rfl⟩) ?_
  refine mm_getfield (v := .ref 8) d61_9 okc6 fk61_19 rfl rfl (by nofun) ?_
  refine mm_aload_n (v := .ref 17) d61_12 rfl (Or.inl ⟨_, rfl⟩) ?_
  refine mm_getfield (v := .ref 1) d61_13 okc6 fk61_15 rfl rfl (by nofun) ?_
  refine mm_iload_n d61_16 rfl ?_
  refine mm_iload_n d61_17 rfl ?_
  exact mm_callV0 (as := [.int x1, .int x2]) (S := [.ref 8]) d61_18 okm26 ln61_69 im26 se26 rfl ⟨_, _, rfl⟩ rfl rfl (Nat.le_of_ble_eq_true rfl) (Nat.le_of_ble_eq_true rfl) hcall hr
theorem b61_21 {l : Launch} {X : Nat × (Nat → Int32)} {d : Nat} {I : Nat → Nat → Int32} {J : Nat → Nat → Int64} {x1 : Int32} {x2 : Int32} {x3 : Int32} {x4 : Int32} {s0 : Int32} {mc ms : Nat} {o : mm_O} {σ' : mm_S} {r : Int64} {I1 : Nat → Nat → Int32} {J1 : Nat → Nat → Int64} (hcall : mm_Call l X 33 d [.ref 8, .int s0, .int x3] (mm_Λ, I, J) 0 0 (.inl (some (.long r))) (mm_Λ, I1, J1)) (hr : mm_Run l X 61 (d + 1) 25 [.ref 17, .int x1, .int x2, .int x3, .int x4] [.long r] (mm_Λ, I1, J1) mc ms o σ') : mm_Run l X 61 (d + 1) 21 [.ref 17, .int x1, .int x2, .int x3, .int x4] [.int s0, .ref 8] (mm_Λ, I, J) mc ms o σ' := by
  refine mm_iload_n d61_21 rfl ?_
  exact mm_callV0 (as := [.int s0, .int x3]) (S := []) d61_22 okm33 ln61_76 im33 se33 rfl ⟨_, _, rfl⟩ rfl rfl (Nat.le_of_ble_eq_true rfl) (Nat.le_of_ble_eq_true rfl) hcall hr
theorem b61_25 {l : Launch} {X : Nat × (Nat → Int32)} {d : Nat} {I : Nat → Nat → Int32} {J : Nat → Nat → Int64} {x1 : Int32} {x2 : Int32} {x3 : Int32} {x4 : Int32} {s0 : Int64} {mc ms : Nat} {o : mm_O} {σ' : mm_S} {r : Int64} {I1 : Nat → Nat → Int32} {J1 : Nat → Nat → Int64} (hcall : mm_Call l X 34 d [.ref 8, .int x1, .int (x2 + 1), .int (x4 - x3)] (mm_Λ, I, J) 0 0 (.inl (some (.long r))) (mm_Λ, I1, J1)) (hr : mm_Run l X 61 (d + 1) 40 [.ref 17, .int x1, .int x2, .int x3, .int x4] [.long r, .long s0] (mm_Λ, I1, J1) mc ms o σ') : mm_Run l X 61 (d + 1) 25 [.ref 17, .int x1, .int x2, .int x3, .int x4] [.long s0] (mm_Λ, I, J) mc ms o σ' := by
  refine mm_aload_n (v := .ref 17) d61_25 rfl (Or.inl ⟨_, rfl⟩) ?_
  refine mm_getfield (v := .ref 8) d61_26 okc6 fk61_19 rfl rfl (by nofun) ?_
  refine mm_iload_n d61_29 rfl ?_
  refine mm_iload_n d61_30 rfl ?_
  refine mm_ic d61_31 ci1 ?_
  refine mm_iadd d61_32 ?_
  refine mm_iload d61_33 rfl ?_
  refine mm_iload_n d61_35 rfl ?_
  refine mm_isub d61_36 ?_
  exact mm_callV0 (as := [.int x1, .int (x2 + 1), .int (x4 - x3)]) (S := [.long s0]) d61_37 okm34 ln61_46 im34 se34 rfl ⟨_, _, rfl⟩ rfl rfl (Nat.le_of_ble_eq_true rfl) (Nat.le_of_ble_eq_true rfl) hcall hr
theorem b61_40 {l : Launch} {X : Nat × (Nat → Int32)} {d : Nat} {I : Nat → Nat → Int32} {J : Nat → Nat → Int64} {x1 : Int32} {x2 : Int32} {x3 : Int32} {x4 : Int32} {s0 : Int64} {s1 : Int64} {mc ms : Nat}  : mm_Run l X 61 (d + 1) 40 [.ref 17, .int x1, .int x2, .int x3, .int x4] [.long s0, .long s1] (mm_Λ, I, J) mc ms (.inl (some (.long (s1 * s0)))) (mm_Λ, I, J) := by
  refine mm_lmul d61_40 ?_
  exact mm_lreturn d61_41 rfl
theorem b62_0 {l : Launch} {X : Nat × (Nat → Int32)} {d : Nat} {I : Nat → Nat → Int32} {J : Nat → Nat → Int64} {x1 : Int32} {x2 : Int32} {x3 : Int32} {mc ms : Nat} {o : mm_O} {σ' : mm_S} (hr : mm_Run l X 62 (d + 1) 8 [.ref 17, .int x1, .int x2, .int x3, .long 1, .null, .int (x3 + 1)] [] (mm_Λ, I, J) mc ms o σ') : mm_Run l X 62 (d + 1) 0 [.ref 17, .int x1, .int x2, .int x3, .null, .null, .null] [] (mm_Λ, I, J) mc ms o σ' := by
  refine mm_lc d62_0 lc1 ?_
  refine mm_lstore d62_1 (by decide +kernel) ?_
  refine mm_iload_n d62_3 rfl ?_
  refine mm_ic d62_4 ci1 ?_
  refine mm_iadd d62_5 ?_
  refine mm_istore d62_6 (by decide +kernel) ?_
  exact hr
theorem b62_8 {l : Launch} {X : Nat × (Nat → Int32)} {d : Nat} {I : Nat → Nat → Int32} {J : Nat → Nat → Int64} {x1 : Int32} {x2 : Int32} {x3 : Int32} {x4 : Int64} {x6 : Int32} {mc ms : Nat} {o : mm_O} {σ' : mm_S} {r : Int32} {I1 : Nat → Nat → Int32} {J1 : Nat → Nat → Int64} (hcall : mm_Call l X 24 d [.ref 1, .int x1] (mm_Λ, I, J) 0 0 (.inl (some (.int r))) (mm_Λ, I1, J1)) (hr : mm_Run l X 62 (d + 1) 18 [.ref 17, .int x1, .int x2, .int x3, .long x4, .null, .int x6] [.int r, .int x6] (mm_Λ, I1, J1) mc ms o σ') : mm_Run l X 62 (d + 1) 8 [.ref 17, .int x1, .int x2, .int x3, .long x4, .null, .int x6] [] (mm_Λ, I, J) mc ms o σ' := by
  refine mm_iload d62_8 rfl ?_
  refine mm_aload_n (v := .ref 17) d62_10 rfl (Or.inl ⟨_, rfl⟩) ?_
  refine mm_getfield (v := .ref 1) d62_11 okc6 fk62_15 rfl rfl (by nofun) ?_
  refine mm_iload_n d62_14 rfl ?_
  exact mm_callV0 (as := [.int x1]) (S := [.int x6]) d62_15 okm24 ln62_63 im24 se24 rfl ⟨_, _, rfl⟩ rfl rfl (Nat.le_of_ble_eq_true rfl) (Nat.le_of_ble_eq_true rfl) hcall hr
theorem b62_18 {l : Launch} {X : Nat × (Nat → Int32)} {d : Nat} {I : Nat → Nat → Int32} {J : Nat → Nat → Int64} {x1 : Int32} {x2 : Int32} {x3 : Int32} {x4 : Int64} {x6 : Int32} {s0 : Int32} {s1 : Int32} {mc ms : Nat} {o : mm_O} {σ' : mm_S} (kt : s0 ≤ s1 → mm_Run l X 62 (d + 1) 60 [.ref 17, .int x1, .int x2, .int x3, .long x4, .null, .int x6] [] (mm_Λ, I, J) mc ms o σ') (kf : ¬ (s0 ≤ s1) → mm_Run l X 62 (d + 1) 21 [.ref 17, .int x1, .int x2, .int x3, .long x4, .null, .int x6] [] (mm_Λ, I, J) mc ms o σ') : mm_Run l X 62 (d + 1) 18 [.ref 17, .int x1, .int x2, .int x3, .long x4, .null, .int x6] [.int s0, .int s1] (mm_Λ, I, J) mc ms o σ' := by
  refine mm_icmp (tgt := 60) d62_18 (by decide) (fun h => ?_) (fun h => ?_)
  · exact kt h
  · exact kf h
theorem b62_21 {l : Launch} {X : Nat × (Nat → Int32)} {d : Nat} {I : Nat → Nat → Int32} {J : Nat → Nat → Int64} {x1 : Int32} {x2 : Int32} {x3 : Int32} {x4 : Int64} {x6 : Int32} {mc ms : Nat} {o : mm_O} {σ' : mm_S} {r : Int32} {I1 : Nat → Nat → Int32} {J1 : Nat → Nat → Int64} (hcall : mm_Call l X 26 d [.ref 1, .int x1, .int x6] (mm_Λ, I, J) 0 0 (.inl (some (.int r))) (mm_Λ, I1, J1)) (hr : mm_Run l X 62 (d + 1) 37 [.ref 17, .int x1, .int x2, .int x3, .long x4, .null, .int x6] [.int r, .ref 8, .long x4] (mm_Λ, I1, J1) mc ms o σ') : mm_Run l X 62 (d + 1) 21 [.ref 17, .int x1, .int x2, .int x3, .long x4, .null, .int x6] [] (mm_Λ, I, J) mc ms o σ' := by
  refine mm_lload d62_21 rfl ?_
  refine mm_aload_n (v := .ref 17) d62_23 rfl (Or.inl ⟨_, rfl⟩) ?_
  refine mm_getfield (v := .ref 8) d62_24 okc6 fk62_19 rfl rfl (by nofun) ?_
  refine mm_aload_n (v := .ref 17) d62_27 rfl (Or.inl ⟨_, rfl⟩) ?_
  refine mm_getfield (v := .ref 1) d62_28 okc6 fk62_15 rfl rfl (by nofun) ?_
  refine mm_iload_n d62_31 rfl ?_
  refine mm_iload d62_32 rfl ?_
  exact mm_callV0 (as := [.int x1, .int x6]) (S := [.ref 8, .long x4]) d62_34 okm26 ln62_69 im26 se26 rfl ⟨_, _, rfl⟩ rfl rfl (Nat.le_of_ble_eq_true rfl) (Nat.le_of_ble_eq_true rfl) hcall hr
theorem b62_37 {l : Launch} {X : Nat × (Nat → Int32)} {d : Nat} {I : Nat → Nat → Int32} {J : Nat → Nat → Int64} {x1 : Int32} {x2 : Int32} {x3 : Int32} {x4 : Int64} {x6 : Int32} {s0 : Int32} {s2 : Int64} {mc ms : Nat} {o : mm_O} {σ' : mm_S} (i47 : vp_in ((x2 * 3) + x6) 39) {r : Int64} {I1 : Nat → Nat → Int32} {J1 : Nat → Nat → Int64} (hcall : mm_Call l X 33 d [.ref 8, .int s0, .int (I 18 ((x2 * 3) + x6).toNatClampNeg)] (mm_Λ, I, J) 0 0 (.inl (some (.long r))) (mm_Λ, I1, J1)) (hr : mm_Run l X 62 (d + 1) 51 [.ref 17, .int x1, .int x2, .int x3, .long x4, .null, .int x6] [.long r, .long s2] (mm_Λ, I1, J1) mc ms o σ') : mm_Run l X 62 (d + 1) 37 [.ref 17, .int x1, .int x2, .int x3, .long x4, .null, .int x6] [.int s0, .ref 8, .long s2] (mm_Λ, I, J) mc ms o σ' := by
  refine mm_aload_n (v := .ref 17) d62_37 rfl (Or.inl ⟨_, rfl⟩) ?_
  refine mm_getfield (v := .ref 18) d62_38 okc6 fk62_9 rfl rfl (by nofun) ?_
  refine mm_iload_n d62_41 rfl ?_
  refine mm_ic d62_42 ci3 ?_
  refine mm_imul d62_43 ?_
  refine mm_iload d62_44 rfl ?_
  refine mm_iadd d62_46 ?_
  refine mm_iaload d62_47 rfl i47 ?_
  exact mm_callV0 (as := [.int s0, .int (I 18 ((x2 * 3) + x6).toNatClampNeg)]) (S := [.long s2]) d62_48 okm33 ln62_76 im33 se33 rfl ⟨_, _, rfl⟩ rfl rfl (Nat.le_of_ble_eq_true rfl) (Nat.le_of_ble_eq_true rfl) hcall hr
theorem b62_51 {l : Launch} {X : Nat × (Nat → Int32)} {d : Nat} {I : Nat → Nat → Int32} {J : Nat → Nat → Int64} {x1 : Int32} {x2 : Int32} {x3 : Int32} {x4 : Int64} {x6 : Int32} {s0 : Int64} {s1 : Int64} {mc ms : Nat} {o : mm_O} {σ' : mm_S} (hr : mm_Run l X 62 (d + 1) 8 [.ref 17, .int x1, .int x2, .int x3, .long (s1 * s0), .null, .int (x6 + 1)] [] (mm_Λ, I, J) mc ms o σ') : mm_Run l X 62 (d + 1) 51 [.ref 17, .int x1, .int x2, .int x3, .long x4, .null, .int x6] [.long s0, .long s1] (mm_Λ, I, J) mc ms o σ' := by
  refine mm_lmul d62_51 ?_
  refine mm_lstore d62_52 (by decide +kernel) ?_
  refine mm_ii d62_54 ci1 rfl (by decide +kernel) ?_
  refine mm_goto (tgt := 8) d62_57 (by decide) ?_
  exact hr
theorem b62_60 {l : Launch} {X : Nat × (Nat → Int32)} {d : Nat} {I : Nat → Nat → Int32} {J : Nat → Nat → Int64} {x1 : Int32} {x2 : Int32} {x3 : Int32} {x4 : Int64} {x6 : Int32} {mc ms : Nat}  : mm_Run l X 62 (d + 1) 60 [.ref 17, .int x1, .int x2, .int x3, .long x4, .null, .int x6] [] (mm_Λ, I, J) mc ms (.inl (some (.long x4))) (mm_Λ, I, J) := by
  refine mm_lload d62_60 rfl ?_
  exact mm_lreturn d62_62 rfl
theorem b64_0 {l : Launch} {X : Nat × (Nat → Int32)} {d : Nat} {I : Nat → Nat → Int32} {J : Nat → Nat → Int64} {x1 : Int32} {x2 : Int32} {mc ms : Nat} {o : mm_O} {σ' : mm_S} {I1 : Nat → Nat → Int32} {J1 : Nat → Nat → Int64} (hcall : mm_Call l X 65 d [.int x1] (mm_Λ, I, J) 0 0 (.inl none) (mm_Λ, I1, J1)) (hr : mm_Run l X 64 (d + 1) 4 [.ref 0, .int x1, .int x2] [] (mm_Λ, I1, J1) mc ms o σ') : mm_Run l X 64 (d + 1) 0 [.ref 0, .int x1, .int x2] [] (mm_Λ, I, J) mc ms o σ' := by
  refine mm_iload_n d64_0 rfl ?_
  exact mm_callS0 (as := [.int x1]) (S := []) d64_1 okm65 ln64_146 st65 rfl rfl (Nat.le_of_ble_eq_true rfl) (Nat.le_of_ble_eq_true rfl) hcall hr
theorem b64_0t {l : Launch} {X : Nat × (Nat → Int32)} {d : Nat} {I : Nat → Nat → Int32} {J : Nat → Nat → Int64} {x1 : Int32} {x2 : Int32} {mc ms : Nat} {E : String} {I1 : Nat → Nat → Int32} {J1 : Nat → Nat → Int64} (hcall : mm_Call l X 65 d [.int x1] (mm_Λ, I, J) mc ms (.inr E) (mm_Λ, I1, J1)) : mm_Run l X 64 (d + 1) 0 [.ref 0, .int x1, .int x2] [] (mm_Λ, I, J) mc ms (.inr E) (mm_Λ, I1, J1) := by
  refine mm_iload_n d64_0 rfl ?_
  exact mm_thrown_out (mm_callST (as := [.int x1]) (S := []) d64_1 okm65 ln64_146 st65 rfl rfl (Nat.le_of_ble_eq_true rfl) (Nat.le_of_ble_eq_true rfl) hcall) rfl
theorem b64_4 {l : Launch} {X : Nat × (Nat → Int32)} {d : Nat} {I : Nat → Nat → Int32} {J : Nat → Nat → Int64} {x1 : Int32} {x2 : Int32} {mc ms : Nat} {o : mm_O} {σ' : mm_S} (kt : x2 < 0 → mm_Run l X 64 (d + 1) 13 [.ref 0, .int x1, .int x2] [] (mm_Λ, I, J) mc ms o σ') (kf : ¬ (x2 < 0) → mm_Run l X 64 (d + 1) 8 [.ref 0, .int x1, .int x2] [] (mm_Λ, I, J) mc ms o σ') : mm_Run l X 64 (d + 1) 4 [.ref 0, .int x1, .int x2] [] (mm_Λ, I, J) mc ms o σ' := by
  refine mm_iload_n d64_4 rfl ?_
  refine mm_if (tgt := 13) d64_5 (by decide) (fun h => ?_) (fun h => ?_)
  · exact kt h
  · exact kf h
theorem b64_8 {l : Launch} {X : Nat × (Nat → Int32)} {d : Nat} {I : Nat → Nat → Int32} {J : Nat → Nat → Int64} {x1 : Int32} {x2 : Int32} {mc ms : Nat} {o : mm_O} {σ' : mm_S} (kt : x2 < 4 → mm_Run l X 64 (d + 1) 23 [.ref 0, .int x1, .int x2] [] (mm_Λ, I, J) mc ms o σ') (kf : ¬ (x2 < 4) → mm_Run l X 64 (d + 1) 13 [.ref 0, .int x1, .int x2] [] (mm_Λ, I, J) mc ms o σ') : mm_Run l X 64 (d + 1) 8 [.ref 0, .int x1, .int x2] [] (mm_Λ, I, J) mc ms o σ' := by
  refine mm_iload_n d64_8 rfl ?_
  refine mm_ic d64_9 ci4 ?_
  refine mm_icmp (tgt := 23) d64_10 (by decide) (fun h => ?_) (fun h => ?_)
  · exact kt h
  · exact kf h
theorem b64_13 {l : Launch} {X : Nat × (Nat → Int32)} {d : Nat} {I : Nat → Nat → Int32} {J : Nat → Nat → Int64} {x1 : Int32} {x2 : Int32}   : mm_Run l X 64 (d + 1) 13 [.ref 0, .int x1, .int x2] [] (mm_Λ, I, J) 1 6 (.inr (mm_ex 1)) (mm_Λ, I, J) := by
  exact thr64_13
theorem b64_23 {l : Launch} {X : Nat × (Nat → Int32)} {d : Nat} {I : Nat → Nat → Int32} {J : Nat → Nat → Int64} {x1 : Int32} {x2 : Int32} {mc ms : Nat} {o : mm_O} {σ' : mm_S} {I1 : Nat → Nat → Int32} {J1 : Nat → Nat → Int64} (hcall : mm_Call l X 67 d [.ref 0] (mm_Λ, I, J) 0 0 (.inl none) (mm_Λ, I1, J1)) (hr : mm_Run l X 64 (d + 1) 27 [.ref 0, .int x1, .int x2] [] (mm_Λ, I1, J1) mc ms o σ') : mm_Run l X 64 (d + 1) 23 [.ref 0, .int x1, .int x2] [] (mm_Λ, I, J) mc ms o σ' := by
  refine mm_aload_n (v := .ref 0) d64_23 rfl (Or.inl ⟨_, rfl⟩) ?_
  exact mm_callV0 (as := []) (S := []) d64_24 okm67 ln64_151 im67 se67 rfl ⟨_, _, rfl⟩ rfl rfl (Nat.le_of_ble_eq_true rfl) (Nat.le_of_ble_eq_true rfl) hcall hr
theorem b64_23t {l : Launch} {X : Nat × (Nat → Int32)} {d : Nat} {I : Nat → Nat → Int32} {J : Nat → Nat → Int64} {x1 : Int32} {x2 : Int32} {mc ms : Nat} {E : String} {I1 : Nat → Nat → Int32} {J1 : Nat → Nat → Int64} (hcall : mm_Call l X 67 d [.ref 0] (mm_Λ, I, J) mc ms (.inr E) (mm_Λ, I1, J1)) : mm_Run l X 64 (d + 1) 23 [.ref 0, .int x1, .int x2] [] (mm_Λ, I, J) mc ms (.inr E) (mm_Λ, I1, J1) := by
  refine mm_aload_n (v := .ref 0) d64_23 rfl (Or.inl ⟨_, rfl⟩) ?_
  exact mm_thrown_out (mm_callVT (as := []) (S := []) d64_24 okm67 ln64_151 im67 se67 rfl ⟨_, _, rfl⟩ rfl rfl (Nat.le_of_ble_eq_true rfl) (Nat.le_of_ble_eq_true rfl) hcall) rfl
theorem b64_27 {l : Launch} {X : Nat × (Nat → Int32)} {d : Nat} {I : Nat → Nat → Int32} {J : Nat → Nat → Int64} {x1 : Int32} {x2 : Int32} {mc ms : Nat} {o : mm_O} {σ' : mm_S} {r : Int32} {I1 : Nat → Nat → Int32} {J1 : Nat → Nat → Int64} (hcall : mm_Call l X 69 d [.ref 19, .int 3, .int x1, .int x2] (mm_Λ, I, J) 0 0 (.inl (some (.int r))) (mm_Λ, I1, J1)) (hr : mm_Run l X 64 (d + 1) 37 [.ref 0, .int x1, .int x2] [.int r] (mm_Λ, I1, J1) mc ms o σ') : mm_Run l X 64 (d + 1) 27 [.ref 0, .int x1, .int x2] [] (mm_Λ, I, J) mc ms o σ' := by
  refine mm_aload_n (v := .ref 0) d64_27 rfl (Or.inl ⟨_, rfl⟩) ?_
  refine mm_getfield (v := .ref 19) d64_28 okc0 fk64_60 rfl rfl (by nofun) ?_
  refine mm_ic d64_31 ci3 ?_
  refine mm_iload_n d64_32 rfl ?_
  refine mm_iload_n d64_33 rfl ?_
  exact mm_callV0 (as := [.int 3, .int x1, .int x2]) (S := []) d64_34 okm69 ln64_154 im69 se69 rfl ⟨_, _, rfl⟩ rfl rfl (Nat.le_of_ble_eq_true rfl) (Nat.le_of_ble_eq_true rfl) hcall hr
theorem b64_37 {l : Launch} {X : Nat × (Nat → Int32)} {d : Nat} {I : Nat → Nat → Int32} {J : Nat → Nat → Int64} {x1 : Int32} {x2 : Int32} {s0 : Int32} {mc ms : Nat}  : mm_Run l X 64 (d + 1) 37 [.ref 0, .int x1, .int x2] [.int s0] (mm_Λ, I, J) mc ms (.inl (some (.int s0))) (mm_Λ, I, J) := by
  exact mm_ireturn d64_37 rfl
theorem b65_0 {l : Launch} {X : Nat × (Nat → Int32)} {d : Nat} {I : Nat → Nat → Int32} {J : Nat → Nat → Int64} {x0 : Int32} {mc ms : Nat} {o : mm_O} {σ' : mm_S} {r : Int32} {I1 : Nat → Nat → Int32} {J1 : Nat → Nat → Int64} (hcall : mm_Call l X 66 d [.int x0] (mm_Λ, I, J) 0 0 (.inl (some (.int r))) (mm_Λ, I1, J1)) (hr : mm_Run l X 65 (d + 1) 4 [.int x0] [.int r] (mm_Λ, I1, J1) mc ms o σ') : mm_Run l X 65 (d + 1) 0 [.int x0] [] (mm_Λ, I, J) mc ms o σ' := by
  refine mm_iload_n d65_0 rfl ?_
  exact mm_callS0 (as := [.int x0]) (S := []) d65_1 okm66 ln65_223 st66 rfl rfl (Nat.le_of_ble_eq_true rfl) (Nat.le_of_ble_eq_true rfl) hcall hr
theorem b65_4 {l : Launch} {X : Nat × (Nat → Int32)} {d : Nat} {I : Nat → Nat → Int32} {J : Nat → Nat → Int64} {x0 : Int32} {s0 : Int32} {mc ms : Nat} {o : mm_O} {σ' : mm_S} (kt : ¬ s0 = 0 → mm_Run l X 65 (d + 1) 17 [.int x0] [] (mm_Λ, I, J) mc ms o σ') (kf : ¬ (¬ s0 = 0) → mm_Run l X 65 (d + 1) 7 [.int x0] [] (mm_Λ, I, J) mc ms o σ') : mm_Run l X 65 (d + 1) 4 [.int x0] [.int s0] (mm_Λ, I, J) mc ms o σ' := by
  refine mm_if (tgt := 17) d65_4 (by decide) (fun h => ?_) (fun h => ?_)
  · exact kt h
  · exact kf h
theorem b65_7 {l : Launch} {X : Nat × (Nat → Int32)} {d : Nat} {I : Nat → Nat → Int32} {J : Nat → Nat → Int64} {x0 : Int32}   : mm_Run l X 65 (d + 1) 7 [.int x0] [] (mm_Λ, I, J) 1 6 (.inr (mm_ex 1)) (mm_Λ, I, J) := by
  exact thr65_7
theorem b65_17 {l : Launch} {X : Nat × (Nat → Int32)} {d : Nat} {I : Nat → Nat → Int32} {J : Nat → Nat → Int64} {x0 : Int32} {mc ms : Nat}  : mm_Run l X 65 (d + 1) 17 [.int x0] [] (mm_Λ, I, J) mc ms (.inl none) (mm_Λ, I, J) := by
  exact mm_vreturn d65_17 rfl
theorem b66_0 {l : Launch} {X : Nat × (Nat → Int32)} {d : Nat} {I : Nat → Nat → Int32} {J : Nat → Nat → Int64} {x0 : Int32} {mc ms : Nat} {o : mm_O} {σ' : mm_S} (kt : x0 < 0 → mm_Run l X 66 d 11 [.int x0, .null] [] (mm_Λ, I, J) mc ms o σ') (kf : ¬ (x0 < 0) → mm_Run l X 66 d 4 [.int x0, .null] [] (mm_Λ, I, J) mc ms o σ') : mm_Run l X 66 d 0 [.int x0, .null] [] (mm_Λ, I, J) mc ms o σ' := by
  refine mm_iload_n d66_0 rfl ?_
  refine mm_if (tgt := 11) d66_1 (by decide) (fun h => ?_) (fun h => ?_)
  · exact kt h
  · exact kf h
theorem b66_4 {l : Launch} {X : Nat × (Nat → Int32)} {d : Nat} {I : Nat → Nat → Int32} {J : Nat → Nat → Int64} {x0 : Int32} {mc ms : Nat} {o : mm_O} {σ' : mm_S} (kt : x0 < 256 → mm_Run l X 66 d 13 [.int x0, .null] [] (mm_Λ, I, J) mc ms o σ') (kf : ¬ (x0 < 256) → mm_Run l X 66 d 11 [.int x0, .null] [] (mm_Λ, I, J) mc ms o σ') : mm_Run l X 66 d 4 [.int x0, .null] [] (mm_Λ, I, J) mc ms o σ' := by
  refine mm_iload_n d66_4 rfl ?_
  refine mm_si d66_5 cs256 ?_
  refine mm_icmp (tgt := 13) d66_8 (by decide) (fun h => ?_) (fun h => ?_)
  · exact kt h
  · exact kf h
theorem b66_11 {l : Launch} {X : Nat × (Nat → Int32)} {d : Nat} {I : Nat → Nat → Int32} {J : Nat → Nat → Int64} {x0 : Int32} {mc ms : Nat}  : mm_Run l X 66 d 11 [.int x0, .null] [] (mm_Λ, I, J) mc ms (.inl (some (.int 0))) (mm_Λ, I, J) := by
  refine mm_ic d66_11 ci0 ?_
  exact mm_zreturn d66_12 rfl (by decide)
theorem b66_13 {l : Launch} {X : Nat × (Nat → Int32)} {d : Nat} {I : Nat → Nat → Int32} {J : Nat → Nat → Int64} {x0 : Int32} {mc ms : Nat} {o : mm_O} {σ' : mm_S} (hr : mm_Run l X 66 d 15 [.int x0, .int x0] [] (mm_Λ, I, J) mc ms o σ') : mm_Run l X 66 d 13 [.int x0, .null] [] (mm_Λ, I, J) mc ms o σ' := by
  refine mm_iload_n d66_13 rfl ?_
  refine mm_istore_n d66_14 (by decide +kernel) ?_
  exact hr
theorem b66_15 {l : Launch} {X : Nat × (Nat → Int32)} {d : Nat} {I : Nat → Nat → Int32} {J : Nat → Nat → Int64} {x0 : Int32} {x1 : Int32} {mc ms : Nat} {o : mm_O} {σ' : mm_S} (kt : x1 ≤ 0 → mm_Run l X 66 d 34 [.int x0, .int x1] [] (mm_Λ, I, J) mc ms o σ') (kf : ¬ (x1 ≤ 0) → mm_Run l X 66 d 19 [.int x0, .int x1] [] (mm_Λ, I, J) mc ms o σ') : mm_Run l X 66 d 15 [.int x0, .int x1] [] (mm_Λ, I, J) mc ms o σ' := by
  refine mm_iload_n d66_15 rfl ?_
  refine mm_if (tgt := 34) d66_16 (by decide) (fun h => ?_) (fun h => ?_)
  · exact kt h
  · exact kf h
theorem b66_19 {l : Launch} {X : Nat × (Nat → Int32)} {d : Nat} {I : Nat → Nat → Int32} {J : Nat → Nat → Int64} {x0 : Int32} {x1 : Int32} {mc ms : Nat} {o : mm_O} {σ' : mm_S} (kt : ¬ (x1 &&& 3) = 0 → mm_Run l X 66 d 27 [.int x0, .int x1] [] (mm_Λ, I, J) mc ms o σ') (kf : ¬ (¬ (x1 &&& 3) = 0) → mm_Run l X 66 d 25 [.int x0, .int x1] [] (mm_Λ, I, J) mc ms o σ') : mm_Run l X 66 d 19 [.int x0, .int x1] [] (mm_Λ, I, J) mc ms o σ' := by
  refine mm_iload_n d66_19 rfl ?_
  refine mm_ic d66_20 ci3 ?_
  refine mm_iand d66_21 ?_
  refine mm_if (tgt := 27) d66_22 (by decide) (fun h => ?_) (fun h => ?_)
  · exact kt h
  · exact kf h
theorem b66_25 {l : Launch} {X : Nat × (Nat → Int32)} {d : Nat} {I : Nat → Nat → Int32} {J : Nat → Nat → Int64} {x0 : Int32} {x1 : Int32} {mc ms : Nat}  : mm_Run l X 66 d 25 [.int x0, .int x1] [] (mm_Λ, I, J) mc ms (.inl (some (.int 0))) (mm_Λ, I, J) := by
  refine mm_ic d66_25 ci0 ?_
  exact mm_zreturn d66_26 rfl (by decide)
theorem b66_27 {l : Launch} {X : Nat × (Nat → Int32)} {d : Nat} {I : Nat → Nat → Int32} {J : Nat → Nat → Int64} {x0 : Int32} {x1 : Int32} {mc ms : Nat} {o : mm_O} {σ' : mm_S} (hr : mm_Run l X 66 d 15 [.int x0, .int (x1 >>> (2 &&& 31))] [] (mm_Λ, I, J) mc ms o σ') : mm_Run l X 66 d 27 [.int x0, .int x1] [] (mm_Λ, I, J) mc ms o σ' := by
  refine mm_iload_n d66_27 rfl ?_
  refine mm_ic d66_28 ci2 ?_
  refine mm_ishr d66_29 ?_
  refine mm_istore_n d66_30 (by decide +kernel) ?_
  refine mm_goto (tgt := 15) d66_31 (by decide) ?_
  exact hr
theorem b66_34 {l : Launch} {X : Nat × (Nat → Int32)} {d : Nat} {I : Nat → Nat → Int32} {J : Nat → Nat → Int64} {x0 : Int32} {x1 : Int32} {mc ms : Nat}  : mm_Run l X 66 d 34 [.int x0, .int x1] [] (mm_Λ, I, J) mc ms (.inl (some (.int 1))) (mm_Λ, I, J) := by
  refine mm_ic d66_34 ci1 ?_
  exact mm_zreturn d66_35 rfl (by decide)
