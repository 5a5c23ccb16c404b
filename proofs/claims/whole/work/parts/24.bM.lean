/-! ===== blocks ===== -/
theorem b100_0 {l : Launch} {X : Nat × (Nat → Int32)} {d : Nat} {I : Nat → Nat → Int32} {J : Nat → Nat → Int64}  {mc ms : Nat}  : mm_Run l X 100 d 0 [.ref 26] [] (mm_Λ, I, J) mc ms (.inl (some (.int (I 26 0)))) (mm_Λ, I, J) := by
  refine mm_aload_n (v := .ref 26) d100_0 rfl (Or.inl ⟨_, rfl⟩) ?_
  refine mm_getfield (v := .int (I 26 0)) d100_1 okc9 fk100_65 rfl rfl (by nofun) ?_
  exact mm_ireturn d100_4 rfl
theorem b101_0 {l : Launch} {X : Nat × (Nat → Int32)} {d : Nat} {I : Nat → Nat → Int32} {J : Nat → Nat → Int64} {x1 : Int32} {x2 : Int32} {x3 : Int32} {x4 : Int32} {x5 : Int32} {mc ms : Nat} {o : mm_O} {σ' : mm_S} {r : Int32} {I1 : Nat → Nat → Int32} {J1 : Nat → Nat → Int64} (hcall : mm_Call l X 102 d [.int x1] (mm_Λ, I, J) 0 0 (.inl (some (.int r))) (mm_Λ, I1, J1)) (hr : mm_Run l X 101 (d + 1) 5 [.ref 26, .int x1, .int x2, .int x3, .int x4, .int x5, .null, .null] [.int r, .ref 26] (mm_Λ, I1, J1) mc ms o σ') : mm_Run l X 101 (d + 1) 0 [.ref 26, .int x1, .int x2, .int x3, .int x4, .int x5, .null, .null] [] (mm_Λ, I, J) mc ms o σ' := by
  refine mm_aload_n (v := .ref 26) d101_0 rfl (Or.inl ⟨_, rfl⟩) ?_
  refine mm_iload_n d101_1 rfl ?_
  exact mm_callS0 (as := [.int x1]) (S := [.ref 26]) d101_2 okm102 ln101_69 st102 rfl rfl (Nat.le_of_ble_eq_true rfl) (Nat.le_of_ble_eq_true rfl) hcall hr
theorem b101_5 {l : Launch} {X : Nat × (Nat → Int32)} {d : Nat} {I : Nat → Nat → Int32} {J : Nat → Nat → Int64} {x1 : Int32} {x2 : Int32} {x3 : Int32} {x4 : Int32} {x5 : Int32} {s0 : Int32} {mc ms : Nat} {o : mm_O} {σ' : mm_S} (kt : ¬ s0 = 0 → mm_Run l X 101 (d + 1) 12 [.ref 26, .int x1, .int x2, .int x3, .int x4, .int x5, .null, .null] [.ref 26] (mm_Λ, I, J) mc ms o σ') (kf : ¬ (¬ s0 = 0) → mm_Run l X 101 (d + 1) 8 [.ref 26, .int x1, .int x2, .int x3, .int x4, .int x5, .null, .null] [.ref 26] (mm_Λ, I, J) mc ms o σ') : mm_Run l X 101 (d + 1) 5 [.ref 26, .int x1, .int x2, .int x3, .int x4, .int x5, .null, .null] [.int s0, .ref 26] (mm_Λ, I, J) mc ms o σ' := by
  refine mm_if (tgt := 12) d101_5 (by decide) (fun h => ?_) (fun h => ?_)
  · exact kt h
  · exact kf h
theorem b101_8 {l : Launch} {X : Nat × (Nat → Int32)} {d : Nat} {I : Nat → Nat → Int32} {J : Nat → Nat → Int64} {x1 : Int32} {x2 : Int32} {x3 : Int32} {x4 : Int32} {x5 : Int32} {mc ms : Nat} {o : mm_O} {σ' : mm_S} (hr : mm_Run l X 101 (d + 1) 26 [.ref 26, .int x1, .int x2, .int x3, .int x4, .int x5, .null, .null] [.int 1, .ref 26] (mm_Λ, I, J) mc ms o σ') : mm_Run l X 101 (d + 1) 8 [.ref 26, .int x1, .int x2, .int x3, .int x4, .int x5, .null, .null] [.ref 26] (mm_Λ, I, J) mc ms o σ' := by
  refine mm_ic d101_8 ci1 ?_
  refine mm_goto (tgt := 26) d101_9 (by decide) ?_
  exact hr
theorem b101_12 {l : Launch} {X : Nat × (Nat → Int32)} {d : Nat} {I : Nat → Nat → Int32} {J : Nat → Nat → Int64} {x1 : Int32} {x2 : Int32} {x3 : Int32} {x4 : Int32} {x5 : Int32} {mc ms : Nat} {o : mm_O} {σ' : mm_S} (kt : x2 < 0 → mm_Run l X 101 (d + 1) 21 [.ref 26, .int x1, .int x2, .int x3, .int x4, .int x5, .null, .null] [.ref 26] (mm_Λ, I, J) mc ms o σ') (kf : ¬ (x2 < 0) → mm_Run l X 101 (d + 1) 16 [.ref 26, .int x1, .int x2, .int x3, .int x4, .int x5, .null, .null] [.ref 26] (mm_Λ, I, J) mc ms o σ') : mm_Run l X 101 (d + 1) 12 [.ref 26, .int x1, .int x2, .int x3, .int x4, .int x5, .null, .null] [.ref 26] (mm_Λ, I, J) mc ms o σ' := by
  refine mm_iload_n d101_12 rfl ?_
  refine mm_if (tgt := 21) d101_13 (by decide) (fun h => ?_) (fun h => ?_)
  · exact kt h
  · exact kf h
theorem b101_16 {l : Launch} {X : Nat × (Nat → Int32)} {d : Nat} {I : Nat → Nat → Int32} {J : Nat → Nat → Int64} {x1 : Int32} {x2 : Int32} {x3 : Int32} {x4 : Int32} {x5 : Int32} {mc ms : Nat} {o : mm_O} {σ' : mm_S} (kt : x2 ≤ 3 → mm_Run l X 101 (d + 1) 25 [.ref 26, .int x1, .int x2, .int x3, .int x4, .int x5, .null, .null] [.ref 26] (mm_Λ, I, J) mc ms o σ') (kf : ¬ (x2 ≤ 3) → mm_Run l X 101 (d + 1) 21 [.ref 26, .int x1, .int x2, .int x3, .int x4, .int x5, .null, .null] [.ref 26] (mm_Λ, I, J) mc ms o σ') : mm_Run l X 101 (d + 1) 16 [.ref 26, .int x1, .int x2, .int x3, .int x4, .int x5, .null, .null] [.ref 26] (mm_Λ, I, J) mc ms o σ' := by
  refine mm_iload_n d101_16 rfl ?_
  refine mm_ic d101_17 ci3 ?_
  refine mm_icmp (tgt := 25) d101_18 (by decide) (fun h => ?_) (fun h => ?_)
  · exact kt h
  · exact kf h
theorem b101_21 {l : Launch} {X : Nat × (Nat → Int32)} {d : Nat} {I : Nat → Nat → Int32} {J : Nat → Nat → Int64} {x1 : Int32} {x2 : Int32} {x3 : Int32} {x4 : Int32} {x5 : Int32} {mc ms : Nat} {o : mm_O} {σ' : mm_S} (hr : mm_Run l X 101 (d + 1) 26 [.ref 26, .int x1, .int x2, .int x3, .int x4, .int x5, .null, .null] [.int 2, .ref 26] (mm_Λ, I, J) mc ms o σ') : mm_Run l X 101 (d + 1) 21 [.ref 26, .int x1, .int x2, .int x3, .int x4, .int x5, .null, .null] [.ref 26] (mm_Λ, I, J) mc ms o σ' := by
  refine mm_ic d101_21 ci2 ?_
  refine mm_goto (tgt := 26) d101_22 (by decide) ?_
  exact hr
theorem b101_25 {l : Launch} {X : Nat × (Nat → Int32)} {d : Nat} {I : Nat → Nat → Int32} {J : Nat → Nat → Int64} {x1 : Int32} {x2 : Int32} {x3 : Int32} {x4 : Int32} {x5 : Int32} {mc ms : Nat} {o : mm_O} {σ' : mm_S} (hr : mm_Run l X 101 (d + 1) 26 [.ref 26, .int x1, .int x2, .int x3, .int x4, .int x5, .null, .null] [.int 0, .ref 26] (mm_Λ, I, J) mc ms o σ') : mm_Run l X 101 (d + 1) 25 [.ref 26, .int x1, .int x2, .int x3, .int x4, .int x5, .null, .null] [.ref 26] (mm_Λ, I, J) mc ms o σ' := by
  refine mm_ic d101_25 ci0 ?_
  exact hr
theorem b101_26 {l : Launch} {X : Nat × (Nat → Int32)} {d : Nat} {I : Nat → Nat → Int32} {J : Nat → Nat → Int64} {x1 : Int32} {x2 : Int32} {x3 : Int32} {x4 : Int32} {x5 : Int32} {s0 : Int32} {mc ms : Nat} {o : mm_O} {σ' : mm_S} (kt : ¬ ((mm_set I 26 0 s0) 26 0) = 0 → mm_Run l X 101 (d + 1) 156 [.ref 26, .int x1, .int x2, .int x3, .int x4, .int x5, .null, .null] [] (mm_Λ, (mm_set I 26 0 s0), J) mc ms o σ') (kf : ¬ (¬ ((mm_set I 26 0 s0) 26 0) = 0) → mm_Run l X 101 (d + 1) 36 [.ref 26, .int x1, .int x2, .int x3, .int x4, .int x5, .null, .null] [] (mm_Λ, (mm_set I 26 0 s0), J) mc ms o σ') : mm_Run l X 101 (d + 1) 26 [.ref 26, .int x1, .int x2, .int x3, .int x4, .int x5, .null, .null] [.int s0, .ref 26] (mm_Λ, I, J) mc ms o σ' := by
  refine mm_putfield d101_26 okc9 fk101_65 fp101_65 rfl rfl rfl ?_
  refine mm_aload_n (v := .ref 26) d101_29 rfl (Or.inl ⟨_, rfl⟩) ?_
  refine mm_getfield (v := .int ((mm_set I 26 0 s0) 26 0)) d101_30 okc9 fk101_65 rfl rfl (by nofun) ?_
  refine mm_if (tgt := 156) d101_33 (by decide) (fun h => ?_) (fun h => ?_)
  · exact kt h
  · exact kf h
theorem b101_36 {l : Launch} {X : Nat × (Nat → Int32)} {d : Nat} {I : Nat → Nat → Int32} {J : Nat → Nat → Int64} {x1 : Int32} {x2 : Int32} {x3 : Int32} {x4 : Int32} {x5 : Int32} {mc ms : Nat} {o : mm_O} {σ' : mm_S} (kt : x2 < 1 → mm_Run l X 101 (d + 1) 48 [.ref 26, .int x1, .int x2, .int x3, .int x4, .int x5, .null, .null] [] (mm_Λ, I, J) mc ms o σ') (kf : ¬ (x2 < 1) → mm_Run l X 101 (d + 1) 41 [.ref 26, .int x1, .int x2, .int x3, .int x4, .int x5, .null, .null] [] (mm_Λ, I, J) mc ms o σ') : mm_Run l X 101 (d + 1) 36 [.ref 26, .int x1, .int x2, .int x3, .int x4, .int x5, .null, .null] [] (mm_Λ, I, J) mc ms o σ' := by
  refine mm_iload_n d101_36 rfl ?_
  refine mm_ic d101_37 ci1 ?_
  refine mm_icmp (tgt := 48) d101_38 (by decide) (fun h => ?_) (fun h => ?_)
  · exact kt h
  · exact kf h
theorem b101_41 {l : Launch} {X : Nat × (Nat → Int32)} {d : Nat} {I : Nat → Nat → Int32} {J : Nat → Nat → Int64} {x1 : Int32} {x2 : Int32} {x3 : Int32} {x4 : Int32} {x5 : Int32} {mc ms : Nat} {o : mm_O} {σ' : mm_S} {r : Int32} {I1 : Nat → Nat → Int32} {J1 : Nat → Nat → Int64} (hcall : mm_Call l X 102 d [.int x3] (mm_Λ, I, J) 0 0 (.inl (some (.int r))) (mm_Λ, I1, J1)) (hr : mm_Run l X 101 (d + 1) 45 [.ref 26, .int x1, .int x2, .int x3, .int x4, .int x5, .null, .null] [.int r] (mm_Λ, I1, J1) mc ms o σ') : mm_Run l X 101 (d + 1) 41 [.ref 26, .int x1, .int x2, .int x3, .int x4, .int x5, .null, .null] [] (mm_Λ, I, J) mc ms o σ' := by
  refine mm_iload_n d101_41 rfl ?_
  exact mm_callS0 (as := [.int x3]) (S := []) d101_42 okm102 ln101_69 st102 rfl rfl (Nat.le_of_ble_eq_true rfl) (Nat.le_of_ble_eq_true rfl) hcall hr
theorem b101_45 {l : Launch} {X : Nat × (Nat → Int32)} {d : Nat} {I : Nat → Nat → Int32} {J : Nat → Nat → Int64} {x1 : Int32} {x2 : Int32} {x3 : Int32} {x4 : Int32} {x5 : Int32} {s0 : Int32} {mc ms : Nat} {o : mm_O} {σ' : mm_S} (kt : s0 = 0 → mm_Run l X 101 (d + 1) 78 [.ref 26, .int x1, .int x2, .int x3, .int x4, .int x5, .null, .null] [] (mm_Λ, I, J) mc ms o σ') (kf : ¬ (s0 = 0) → mm_Run l X 101 (d + 1) 48 [.ref 26, .int x1, .int x2, .int x3, .int x4, .int x5, .null, .null] [] (mm_Λ, I, J) mc ms o σ') : mm_Run l X 101 (d + 1) 45 [.ref 26, .int x1, .int x2, .int x3, .int x4, .int x5, .null, .null] [.int s0] (mm_Λ, I, J) mc ms o σ' := by
  refine mm_if (tgt := 78) d101_45 (by decide) (fun h => ?_) (fun h => ?_)
  · exact kt h
  · exact kf h
theorem b101_48 {l : Launch} {X : Nat × (Nat → Int32)} {d : Nat} {I : Nat → Nat → Int32} {J : Nat → Nat → Int64} {x1 : Int32} {x2 : Int32} {x3 : Int32} {x4 : Int32} {x5 : Int32} {mc ms : Nat} {o : mm_O} {σ' : mm_S} (kt : x2 < 2 → mm_Run l X 101 (d + 1) 61 [.ref 26, .int x1, .int x2, .int x3, .int x4, .int x5, .null, .null] [] (mm_Λ, I, J) mc ms o σ') (kf : ¬ (x2 < 2) → mm_Run l X 101 (d + 1) 53 [.ref 26, .int x1, .int x2, .int x3, .int x4, .int x5, .null, .null] [] (mm_Λ, I, J) mc ms o σ') : mm_Run l X 101 (d + 1) 48 [.ref 26, .int x1, .int x2, .int x3, .int x4, .int x5, .null, .null] [] (mm_Λ, I, J) mc ms o σ' := by
  refine mm_iload_n d101_48 rfl ?_
  refine mm_ic d101_49 ci2 ?_
  refine mm_icmp (tgt := 61) d101_50 (by decide) (fun h => ?_) (fun h => ?_)
  · exact kt h
  · exact kf h
theorem b101_53 {l : Launch} {X : Nat × (Nat → Int32)} {d : Nat} {I : Nat → Nat → Int32} {J : Nat → Nat → Int64} {x1 : Int32} {x2 : Int32} {x3 : Int32} {x4 : Int32} {x5 : Int32} {mc ms : Nat} {o : mm_O} {σ' : mm_S} {r : Int32} {I1 : Nat → Nat → Int32} {J1 : Nat → Nat → Int64} (hcall : mm_Call l X 102 d [.int x4] (mm_Λ, I, J) 0 0 (.inl (some (.int r))) (mm_Λ, I1, J1)) (hr : mm_Run l X 101 (d + 1) 58 [.ref 26, .int x1, .int x2, .int x3, .int x4, .int x5, .null, .null] [.int r] (mm_Λ, I1, J1) mc ms o σ') : mm_Run l X 101 (d + 1) 53 [.ref 26, .int x1, .int x2, .int x3, .int x4, .int x5, .null, .null] [] (mm_Λ, I, J) mc ms o σ' := by
  refine mm_iload d101_53 rfl ?_
  exact mm_callS0 (as := [.int x4]) (S := []) d101_55 okm102 ln101_69 st102 rfl rfl (Nat.le_of_ble_eq_true rfl) (Nat.le_of_ble_eq_true rfl) hcall hr
theorem b101_58 {l : Launch} {X : Nat × (Nat → Int32)} {d : Nat} {I : Nat → Nat → Int32} {J : Nat → Nat → Int64} {x1 : Int32} {x2 : Int32} {x3 : Int32} {x4 : Int32} {x5 : Int32} {s0 : Int32} {mc ms : Nat} {o : mm_O} {σ' : mm_S} (kt : s0 = 0 → mm_Run l X 101 (d + 1) 78 [.ref 26, .int x1, .int x2, .int x3, .int x4, .int x5, .null, .null] [] (mm_Λ, I, J) mc ms o σ') (kf : ¬ (s0 = 0) → mm_Run l X 101 (d + 1) 61 [.ref 26, .int x1, .int x2, .int x3, .int x4, .int x5, .null, .null] [] (mm_Λ, I, J) mc ms o σ') : mm_Run l X 101 (d + 1) 58 [.ref 26, .int x1, .int x2, .int x3, .int x4, .int x5, .null, .null] [.int s0] (mm_Λ, I, J) mc ms o σ' := by
  refine mm_if (tgt := 78) d101_58 (by decide) (fun h => ?_) (fun h => ?_)
  · exact kt h
  · exact kf h
theorem b101_61 {l : Launch} {X : Nat × (Nat → Int32)} {d : Nat} {I : Nat → Nat → Int32} {J : Nat → Nat → Int64} {x1 : Int32} {x2 : Int32} {x3 : Int32} {x4 : Int32} {x5 : Int32} {mc ms : Nat} {o : mm_O} {σ' : mm_S} (kt : x2 < 3 → mm_Run l X 101 (d + 1) 74 [.ref 26, .int x1, .int x2, .int x3, .int x4, .int x5, .null, .null] [] (mm_Λ, I, J) mc ms o σ') (kf : ¬ (x2 < 3) → mm_Run l X 101 (d + 1) 66 [.ref 26, .int x1, .int x2, .int x3, .int x4, .int x5, .null, .null] [] (mm_Λ, I, J) mc ms o σ') : mm_Run l X 101 (d + 1) 61 [.ref 26, .int x1, .int x2, .int x3, .int x4, .int x5, .null, .null] [] (mm_Λ, I, J) mc ms o σ' := by
  refine mm_iload_n d101_61 rfl ?_
  refine mm_ic d101_62 ci3 ?_
  refine mm_icmp (tgt := 74) d101_63 (by decide) (fun h => ?_) (fun h => ?_)
  · exact kt h
  · exact kf h
theorem b101_66 {l : Launch} {X : Nat × (Nat → Int32)} {d : Nat} {I : Nat → Nat → Int32} {J : Nat → Nat → Int64} {x1 : Int32} {x2 : Int32} {x3 : Int32} {x4 : Int32} {x5 : Int32} {mc ms : Nat} {o : mm_O} {σ' : mm_S} {r : Int32} {I1 : Nat → Nat → Int32} {J1 : Nat → Nat → Int64} (hcall : mm_Call l X 102 d [.int x5] (mm_Λ, I, J) 0 0 (.inl (some (.int r))) (mm_Λ, I1, J1)) (hr : mm_Run l X 101 (d + 1) 71 [.ref 26, .int x1, .int x2, .int x3, .int x4, .int x5, .null, .null] [.int r] (mm_Λ, I1, J1) mc ms o σ') : mm_Run l X 101 (d + 1) 66 [.ref 26, .int x1, .int x2, .int x3, .int x4, .int x5, .null, .null] [] (mm_Λ, I, J) mc ms o σ' := by
  refine mm_iload d101_66 rfl ?_
  exact mm_callS0 (as := [.int x5]) (S := []) d101_68 okm102 ln101_69 st102 rfl rfl (Nat.le_of_ble_eq_true rfl) (Nat.le_of_ble_eq_true rfl) hcall hr
theorem b101_71 {l : Launch} {X : Nat × (Nat → Int32)} {d : Nat} {I : Nat → Nat → Int32} {J : Nat → Nat → Int64} {x1 : Int32} {x2 : Int32} {x3 : Int32} {x4 : Int32} {x5 : Int32} {s0 : Int32} {mc ms : Nat} {o : mm_O} {σ' : mm_S} (kt : s0 = 0 → mm_Run l X 101 (d + 1) 78 [.ref 26, .int x1, .int x2, .int x3, .int x4, .int x5, .null, .null] [] (mm_Λ, I, J) mc ms o σ') (kf : ¬ (s0 = 0) → mm_Run l X 101 (d + 1) 74 [.ref 26, .int x1, .int x2, .int x3, .int x4, .int x5, .null, .null] [] (mm_Λ, I, J) mc ms o σ') : mm_Run l X 101 (d + 1) 71 [.ref 26, .int x1, .int x2, .int x3, .int x4, .int x5, .null, .null] [.int s0] (mm_Λ, I, J) mc ms o σ' := by
  refine mm_if (tgt := 78) d101_71 (by decide) (fun h => ?_) (fun h => ?_)
  · exact kt h
  · exact kf h
theorem b101_74 {l : Launch} {X : Nat × (Nat → Int32)} {d : Nat} {I : Nat → Nat → Int32} {J : Nat → Nat → Int64} {x1 : Int32} {x2 : Int32} {x3 : Int32} {x4 : Int32} {x5 : Int32} {mc ms : Nat} {o : mm_O} {σ' : mm_S} (hr : mm_Run l X 101 (d + 1) 79 [.ref 26, .int x1, .int x2, .int x3, .int x4, .int x5, .null, .null] [.int 1] (mm_Λ, I, J) mc ms o σ') : mm_Run l X 101 (d + 1) 74 [.ref 26, .int x1, .int x2, .int x3, .int x4, .int x5, .null, .null] [] (mm_Λ, I, J) mc ms o σ' := by
  refine mm_ic d101_74 ci1 ?_
  refine mm_goto (tgt := 79) d101_75 (by decide) ?_
  exact hr
theorem b101_78 {l : Launch} {X : Nat × (Nat → Int32)} {d : Nat} {I : Nat → Nat → Int32} {J : Nat → Nat → Int64} {x1 : Int32} {x2 : Int32} {x3 : Int32} {x4 : Int32} {x5 : Int32} {mc ms : Nat} {o : mm_O} {σ' : mm_S} (hr : mm_Run l X 101 (d + 1) 79 [.ref 26, .int x1, .int x2, .int x3, .int x4, .int x5, .null, .null] [.int 0] (mm_Λ, I, J) mc ms o σ') : mm_Run l X 101 (d + 1) 78 [.ref 26, .int x1, .int x2, .int x3, .int x4, .int x5, .null, .null] [] (mm_Λ, I, J) mc ms o σ' := by
  refine mm_ic d101_78 ci0 ?_
  exact hr
theorem b101_79 {l : Launch} {X : Nat × (Nat → Int32)} {d : Nat} {I : Nat → Nat → Int32} {J : Nat → Nat → Int64} {x1 : Int32} {x2 : Int32} {x3 : Int32} {x4 : Int32} {x5 : Int32} {s0 : Int32} {mc ms : Nat} {o : mm_O} {σ' : mm_S} (kt : 0 < x2 → mm_Run l X 101 (d + 1) 90 [.ref 26, .int x1, .int x2, .int x3, .int x4, .int x5, .int s0, .null] [] (mm_Λ, I, J) mc ms o σ') (kf : ¬ (0 < x2) → mm_Run l X 101 (d + 1) 85 [.ref 26, .int x1, .int x2, .int x3, .int x4, .int x5, .int s0, .null] [] (mm_Λ, I, J) mc ms o σ') : mm_Run l X 101 (d + 1) 79 [.ref 26, .int x1, .int x2, .int x3, .int x4, .int x5, .null, .null] [.int s0] (mm_Λ, I, J) mc ms o σ' := by
  refine mm_istore d101_79 (by decide +kernel) ?_
  refine mm_iload_n d101_81 rfl ?_
  refine mm_if (tgt := 90) d101_82 (by decide) (fun h => ?_) (fun h => ?_)
  · exact kt h
  · exact kf h
theorem b101_85 {l : Launch} {X : Nat × (Nat → Int32)} {d : Nat} {I : Nat → Nat → Int32} {J : Nat → Nat → Int64} {x1 : Int32} {x2 : Int32} {x3 : Int32} {x4 : Int32} {x5 : Int32} {x6 : Int32} {mc ms : Nat} {o : mm_O} {σ' : mm_S} (kt : ¬ x3 = (-1) → mm_Run l X 101 (d + 1) 116 [.ref 26, .int x1, .int x2, .int x3, .int x4, .int x5, .int x6, .null] [] (mm_Λ, I, J) mc ms o σ') (kf : ¬ (¬ x3 = (-1)) → mm_Run l X 101 (d + 1) 90 [.ref 26, .int x1, .int x2, .int x3, .int x4, .int x5, .int x6, .null] [] (mm_Λ, I, J) mc ms o σ') : mm_Run l X 101 (d + 1) 85 [.ref 26, .int x1, .int x2, .int x3, .int x4, .int x5, .int x6, .null] [] (mm_Λ, I, J) mc ms o σ' := by
  refine mm_iload_n d101_85 rfl ?_
  refine mm_ic d101_86 cim1 ?_
  refine mm_icmp (tgt := 116) d101_87 (by decide) (fun h => ?_) (fun h => ?_)
  · exact kt h
  · exact kf h
theorem b101_90 {l : Launch} {X : Nat × (Nat → Int32)} {d : Nat} {I : Nat → Nat → Int32} {J : Nat → Nat → Int64} {x1 : Int32} {x2 : Int32} {x3 : Int32} {x4 : Int32} {x5 : Int32} {x6 : Int32} {mc ms : Nat} {o : mm_O} {σ' : mm_S} (kt : 1 < x2 → mm_Run l X 101 (d + 1) 101 [.ref 26, .int x1, .int x2, .int x3, .int x4, .int x5, .int x6, .null] [] (mm_Λ, I, J) mc ms o σ') (kf : ¬ (1 < x2) → mm_Run l X 101 (d + 1) 95 [.ref 26, .int x1, .int x2, .int x3, .int x4, .int x5, .int x6, .null] [] (mm_Λ, I, J) mc ms o σ') : mm_Run l X 101 (d + 1) 90 [.ref 26, .int x1, .int x2, .int x3, .int x4, .int x5, .int x6, .null] [] (mm_Λ, I, J) mc ms o σ' := by
  refine mm_iload_n d101_90 rfl ?_
  refine mm_ic d101_91 ci1 ?_
  refine mm_icmp (tgt := 101) d101_92 (by decide) (fun h => ?_) (fun h => ?_)
  · exact kt h
  · exact kf h
theorem b101_95 {l : Launch} {X : Nat × (Nat → Int32)} {d : Nat} {I : Nat → Nat → Int32} {J : Nat → Nat → Int64} {x1 : Int32} {x2 : Int32} {x3 : Int32} {x4 : Int32} {x5 : Int32} {x6 : Int32} {mc ms : Nat} {o : mm_O} {σ' : mm_S} (kt : ¬ x4 = (-1) → mm_Run l X 101 (d + 1) 116 [.ref 26, .int x1, .int x2, .int x3, .int x4, .int x5, .int x6, .null] [] (mm_Λ, I, J) mc ms o σ') (kf : ¬ (¬ x4 = (-1)) → mm_Run l X 101 (d + 1) 101 [.ref 26, .int x1, .int x2, .int x3, .int x4, .int x5, .int x6, .null] [] (mm_Λ, I, J) mc ms o σ') : mm_Run l X 101 (d + 1) 95 [.ref 26, .int x1, .int x2, .int x3, .int x4, .int x5, .int x6, .null] [] (mm_Λ, I, J) mc ms o σ' := by
  refine mm_iload d101_95 rfl ?_
  refine mm_ic d101_97 cim1 ?_
  refine mm_icmp (tgt := 116) d101_98 (by decide) (fun h => ?_) (fun h => ?_)
  · exact kt h
  · exact kf h
theorem b101_101 {l : Launch} {X : Nat × (Nat → Int32)} {d : Nat} {I : Nat → Nat → Int32} {J : Nat → Nat → Int64} {x1 : Int32} {x2 : Int32} {x3 : Int32} {x4 : Int32} {x5 : Int32} {x6 : Int32} {mc ms : Nat} {o : mm_O} {σ' : mm_S} (kt : 2 < x2 → mm_Run l X 101 (d + 1) 112 [.ref 26, .int x1, .int x2, .int x3, .int x4, .int x5, .int x6, .null] [] (mm_Λ, I, J) mc ms o σ') (kf : ¬ (2 < x2) → mm_Run l X 101 (d + 1) 106 [.ref 26, .int x1, .int x2, .int x3, .int x4, .int x5, .int x6, .null] [] (mm_Λ, I, J) mc ms o σ') : mm_Run l X 101 (d + 1) 101 [.ref 26, .int x1, .int x2, .int x3, .int x4, .int x5, .int x6, .null] [] (mm_Λ, I, J) mc ms o σ' := by
  refine mm_iload_n d101_101 rfl ?_
  refine mm_ic d101_102 ci2 ?_
  refine mm_icmp (tgt := 112) d101_103 (by decide) (fun h => ?_) (fun h => ?_)
  · exact kt h
  · exact kf h
theorem b101_106 {l : Launch} {X : Nat × (Nat → Int32)} {d : Nat} {I : Nat → Nat → Int32} {J : Nat → Nat → Int64} {x1 : Int32} {x2 : Int32} {x3 : Int32} {x4 : Int32} {x5 : Int32} {x6 : Int32} {mc ms : Nat} {o : mm_O} {σ' : mm_S} (kt : ¬ x5 = (-1) → mm_Run l X 101 (d + 1) 116 [.ref 26, .int x1, .int x2, .int x3, .int x4, .int x5, .int x6, .null] [] (mm_Λ, I, J) mc ms o σ') (kf : ¬ (¬ x5 = (-1)) → mm_Run l X 101 (d + 1) 112 [.ref 26, .int x1, .int x2, .int x3, .int x4, .int x5, .int x6, .null] [] (mm_Λ, I, J) mc ms o σ') : mm_Run l X 101 (d + 1) 106 [.ref 26, .int x1, .int x2, .int x3, .int x4, .int x5, .int x6, .null] [] (mm_Λ, I, J) mc ms o σ' := by
  refine mm_iload d101_106 rfl ?_
  refine mm_ic d101_108 cim1 ?_
  refine mm_icmp (tgt := 116) d101_109 (by decide) (fun h => ?_) (fun h => ?_)
  · exact kt h
  · exact kf h
theorem b101_112 {l : Launch} {X : Nat × (Nat → Int32)} {d : Nat} {I : Nat → Nat → Int32} {J : Nat → Nat → Int64} {x1 : Int32} {x2 : Int32} {x3 : Int32} {x4 : Int32} {x5 : Int32} {x6 : Int32} {mc ms : Nat} {o : mm_O} {σ' : mm_S} (hr : mm_Run l X 101 (d + 1) 117 [.ref 26, .int x1, .int x2, .int x3, .int x4, .int x5, .int x6, .null] [.int 1] (mm_Λ, I, J) mc ms o σ') : mm_Run l X 101 (d + 1) 112 [.ref 26, .int x1, .int x2, .int x3, .int x4, .int x5, .int x6, .null] [] (mm_Λ, I, J) mc ms o σ' := by
  refine mm_ic d101_112 ci1 ?_
  refine mm_goto (tgt := 117) d101_113 (by decide) ?_
  exact hr
theorem b101_116 {l : Launch} {X : Nat × (Nat → Int32)} {d : Nat} {I : Nat → Nat → Int32} {J : Nat → Nat → Int64} {x1 : Int32} {x2 : Int32} {x3 : Int32} {x4 : Int32} {x5 : Int32} {x6 : Int32} {mc ms : Nat} {o : mm_O} {σ' : mm_S} (hr : mm_Run l X 101 (d + 1) 117 [.ref 26, .int x1, .int x2, .int x3, .int x4, .int x5, .int x6, .null] [.int 0] (mm_Λ, I, J) mc ms o σ') : mm_Run l X 101 (d + 1) 116 [.ref 26, .int x1, .int x2, .int x3, .int x4, .int x5, .int x6, .null] [] (mm_Λ, I, J) mc ms o σ' := by
  refine mm_ic d101_116 ci0 ?_
  exact hr
theorem b101_117 {l : Launch} {X : Nat × (Nat → Int32)} {d : Nat} {I : Nat → Nat → Int32} {J : Nat → Nat → Int64} {x1 : Int32} {x2 : Int32} {x3 : Int32} {x4 : Int32} {x5 : Int32} {x6 : Int32} {s0 : Int32} {mc ms : Nat} {o : mm_O} {σ' : mm_S} (kt : ¬ x6 = 0 → mm_Run l X 101 (d + 1) 129 [.ref 26, .int x1, .int x2, .int x3, .int x4, .int x5, .int x6, .int s0] [.ref 26] (mm_Λ, I, J) mc ms o σ') (kf : ¬ (¬ x6 = 0) → mm_Run l X 101 (d + 1) 125 [.ref 26, .int x1, .int x2, .int x3, .int x4, .int x5, .int x6, .int s0] [.ref 26] (mm_Λ, I, J) mc ms o σ') : mm_Run l X 101 (d + 1) 117 [.ref 26, .int x1, .int x2, .int x3, .int x4, .int x5, .int x6, .null] [.int s0] (mm_Λ, I, J) mc ms o σ' := by
  refine mm_istore d101_117 (by decide +kernel) ?_
  refine mm_aload_n (v := .ref 26) d101_119 rfl (Or.inl ⟨_, rfl⟩) ?_
  refine mm_iload d101_120 rfl ?_
  refine mm_if (tgt := 129) d101_122 (by decide) (fun h => ?_) (fun h => ?_)
  · exact kt h
  · exact kf h
theorem b101_125 {l : Launch} {X : Nat × (Nat → Int32)} {d : Nat} {I : Nat → Nat → Int32} {J : Nat → Nat → Int64} {x1 : Int32} {x2 : Int32} {x3 : Int32} {x4 : Int32} {x5 : Int32} {x6 : Int32} {x7 : Int32} {mc ms : Nat} {o : mm_O} {σ' : mm_S} (hr : mm_Run l X 101 (d + 1) 153 [.ref 26, .int x1, .int x2, .int x3, .int x4, .int x5, .int x6, .int x7] [.int 1, .ref 26] (mm_Λ, I, J) mc ms o σ') : mm_Run l X 101 (d + 1) 125 [.ref 26, .int x1, .int x2, .int x3, .int x4, .int x5, .int x6, .int x7] [.ref 26] (mm_Λ, I, J) mc ms o σ' := by
  refine mm_ic d101_125 ci1 ?_
  refine mm_goto (tgt := 153) d101_126 (by decide) ?_
  exact hr
theorem b101_129 {l : Launch} {X : Nat × (Nat → Int32)} {d : Nat} {I : Nat → Nat → Int32} {J : Nat → Nat → Int64} {x1 : Int32} {x2 : Int32} {x3 : Int32} {x4 : Int32} {x5 : Int32} {x6 : Int32} {x7 : Int32} {mc ms : Nat} {o : mm_O} {σ' : mm_S} (kt : ¬ x7 = 0 → mm_Run l X 101 (d + 1) 138 [.ref 26, .int x1, .int x2, .int x3, .int x4, .int x5, .int x6, .int x7] [.ref 26] (mm_Λ, I, J) mc ms o σ') (kf : ¬ (¬ x7 = 0) → mm_Run l X 101 (d + 1) 134 [.ref 26, .int x1, .int x2, .int x3, .int x4, .int x5, .int x6, .int x7] [.ref 26] (mm_Λ, I, J) mc ms o σ') : mm_Run l X 101 (d + 1) 129 [.ref 26, .int x1, .int x2, .int x3, .int x4, .int x5, .int x6, .int x7] [.ref 26] (mm_Λ, I, J) mc ms o σ' := by
  refine mm_iload d101_129 rfl ?_
  refine mm_if (tgt := 138) d101_131 (by decide) (fun h => ?_) (fun h => ?_)
  · exact kt h
  · exact kf h
theorem b101_134 {l : Launch} {X : Nat × (Nat → Int32)} {d : Nat} {I : Nat → Nat → Int32} {J : Nat → Nat → Int64} {x1 : Int32} {x2 : Int32} {x3 : Int32} {x4 : Int32} {x5 : Int32} {x6 : Int32} {x7 : Int32} {mc ms : Nat} {o : mm_O} {σ' : mm_S} (hr : mm_Run l X 101 (d + 1) 153 [.ref 26, .int x1, .int x2, .int x3, .int x4, .int x5, .int x6, .int x7] [.int 2, .ref 26] (mm_Λ, I, J) mc ms o σ') : mm_Run l X 101 (d + 1) 134 [.ref 26, .int x1, .int x2, .int x3, .int x4, .int x5, .int x6, .int x7] [.ref 26] (mm_Λ, I, J) mc ms o σ' := by
  refine mm_ic d101_134 ci2 ?_
  refine mm_goto (tgt := 153) d101_135 (by decide) ?_
  exact hr
theorem b101_138 {l : Launch} {X : Nat × (Nat → Int32)} {d : Nat} {I : Nat → Nat → Int32} {J : Nat → Nat → Int64} {x1 : Int32} {x2 : Int32} {x3 : Int32} {x4 : Int32} {x5 : Int32} {x6 : Int32} {x7 : Int32} {mc ms : Nat} {o : mm_O} {σ' : mm_S} (i143 : vp_in x1 6) (kt : ¬ (I 27 x1.toNatClampNeg) = 4 → mm_Run l X 101 (d + 1) 152 [.ref 26, .int x1, .int x2, .int x3, .int x4, .int x5, .int x6, .int x7] [.ref 26] (mm_Λ, I, J) mc ms o σ') (kf : ¬ (¬ (I 27 x1.toNatClampNeg) = 4) → mm_Run l X 101 (d + 1) 148 [.ref 26, .int x1, .int x2, .int x3, .int x4, .int x5, .int x6, .int x7] [.ref 26] (mm_Λ, I, J) mc ms o σ') : mm_Run l X 101 (d + 1) 138 [.ref 26, .int x1, .int x2, .int x3, .int x4, .int x5, .int x6, .int x7] [.ref 26] (mm_Λ, I, J) mc ms o σ' := by
  refine mm_aload_n (v := .ref 26) d101_138 rfl (Or.inl ⟨_, rfl⟩) ?_
  refine mm_getfield (v := .ref 27) d101_139 okc9 fk101_7 rfl rfl (by nofun) ?_
  refine mm_iload_n d101_142 rfl ?_
  refine mm_iaload d101_143 rfl i143 ?_
  refine mm_ic d101_144 ci4 ?_
  refine mm_icmp (tgt := 152) d101_145 (by decide) (fun h => ?_) (fun h => ?_)
  · exact kt h
  · exact kf h
theorem b101_148 {l : Launch} {X : Nat × (Nat → Int32)} {d : Nat} {I : Nat → Nat → Int32} {J : Nat → Nat → Int64} {x1 : Int32} {x2 : Int32} {x3 : Int32} {x4 : Int32} {x5 : Int32} {x6 : Int32} {x7 : Int32} {mc ms : Nat} {o : mm_O} {σ' : mm_S} (hr : mm_Run l X 101 (d + 1) 153 [.ref 26, .int x1, .int x2, .int x3, .int x4, .int x5, .int x6, .int x7] [.int 3, .ref 26] (mm_Λ, I, J) mc ms o σ') : mm_Run l X 101 (d + 1) 148 [.ref 26, .int x1, .int x2, .int x3, .int x4, .int x5, .int x6, .int x7] [.ref 26] (mm_Λ, I, J) mc ms o σ' := by
  refine mm_ic d101_148 ci3 ?_
  refine mm_goto (tgt := 153) d101_149 (by decide) ?_
  exact hr
theorem b101_152 {l : Launch} {X : Nat × (Nat → Int32)} {d : Nat} {I : Nat → Nat → Int32} {J : Nat → Nat → Int64} {x1 : Int32} {x2 : Int32} {x3 : Int32} {x4 : Int32} {x5 : Int32} {x6 : Int32} {x7 : Int32} {mc ms : Nat} {o : mm_O} {σ' : mm_S} (hr : mm_Run l X 101 (d + 1) 153 [.ref 26, .int x1, .int x2, .int x3, .int x4, .int x5, .int x6, .int x7] [.int 0, .ref 26] (mm_Λ, I, J) mc ms o σ') : mm_Run l X 101 (d + 1) 152 [.ref 26, .int x1, .int x2, .int x3, .int x4, .int x5, .int x6, .int x7] [.ref 26] (mm_Λ, I, J) mc ms o σ' := by
  refine mm_ic d101_152 ci0 ?_
  exact hr
theorem b101_153 {l : Launch} {X : Nat × (Nat → Int32)} {d : Nat} {I : Nat → Nat → Int32} {J : Nat → Nat → Int64} {x1 : Int32} {x2 : Int32} {x3 : Int32} {x4 : Int32} {x5 : Int32} {x6 : Int32} {x7 : Int32} {s0 : Int32} {mc ms : Nat} {o : mm_O} {σ' : mm_S} (hr : mm_Run l X 101 (d + 1) 156 [.ref 26, .int x1, .int x2, .int x3, .int x4, .int x5, .null, .null] [] (mm_Λ, (mm_set I 26 0 s0), J) mc ms o σ') : mm_Run l X 101 (d + 1) 153 [.ref 26, .int x1, .int x2, .int x3, .int x4, .int x5, .int x6, .int x7] [.int s0, .ref 26] (mm_Λ, I, J) mc ms o σ' := by
  refine mm_putfield d101_153 okc9 fk101_65 fp101_65 rfl rfl rfl ?_
  exact mm_forget hr (by exact ⟨rfl, rfl, rfl, rfl, rfl, rfl, trivial⟩)
theorem b101_156 {l : Launch} {X : Nat × (Nat → Int32)} {d : Nat} {I : Nat → Nat → Int32} {J : Nat → Nat → Int64} {x1 : Int32} {x2 : Int32} {x3 : Int32} {x4 : Int32} {x5 : Int32} {mc ms : Nat} {o : mm_O} {σ' : mm_S} (kt : (I 26 0) ≤ 0 → mm_Run l X 101 (d + 1) 165 [.ref 26, .int x1, .int x2, .int x3, .int x4, .int x5, .null, .null] [] (mm_Λ, I, J) mc ms o σ') (kf : ¬ ((I 26 0) ≤ 0) → mm_Run l X 101 (d + 1) 163 [.ref 26, .int x1, .int x2, .int x3, .int x4, .int x5, .null, .null] [] (mm_Λ, I, J) mc ms o σ') : mm_Run l X 101 (d + 1) 156 [.ref 26, .int x1, .int x2, .int x3, .int x4, .int x5, .null, .null] [] (mm_Λ, I, J) mc ms o σ' := by
  refine mm_aload_n (v := .ref 26) d101_156 rfl (Or.inl ⟨_, rfl⟩) ?_
  refine mm_getfield (v := .int (I 26 0)) d101_157 okc9 fk101_65 rfl rfl (by nofun) ?_
  refine mm_if (tgt := 165) d101_160 (by decide) (fun h => ?_) (fun h => ?_)
  · exact kt h
  · exact kf h
theorem b101_163 {l : Launch} {X : Nat × (Nat → Int32)} {d : Nat} {I : Nat → Nat → Int32} {J : Nat → Nat → Int64} {x1 : Int32} {x2 : Int32} {x3 : Int32} {x4 : Int32} {x5 : Int32} {mc ms : Nat}  : mm_Run l X 101 (d + 1) 163 [.ref 26, .int x1, .int x2, .int x3, .int x4, .int x5, .null, .null] [] (mm_Λ, I, J) mc ms (.inl (some (.int 0))) (mm_Λ, I, J) := by
  refine mm_ic d101_163 ci0 ?_
  exact mm_ireturn d101_164 rfl
theorem b101_165 {l : Launch} {X : Nat × (Nat → Int32)} {d : Nat} {I : Nat → Nat → Int32} {J : Nat → Nat → Int64} {x1 : Int32} {x2 : Int32} {x3 : Int32} {x4 : Int32} {x5 : Int32} {mc ms : Nat} (i170 : vp_in x1 6) (i184 : vp_in ((4 * x1) + (I 27 x1.toNatClampNeg)) 24) (i199 : vp_in ((12 * x1) + (3 * (I 27 x1.toNatClampNeg))) 72) (i217 : vp_in (((12 * x1) + (3 * (I 27 x1.toNatClampNeg))) + 1) 72) (i235 : vp_in (((12 * x1) + (3 * (I 27 x1.toNatClampNeg))) + 2) 72) (i242 : vp_in x1 6) (i245 : vp_in x1 6) : mm_Run l X 101 (d + 1) 165 [.ref 26, .int x1, .int x2, .int x3, .int x4, .int x5, .null, .null] [] (mm_Λ, I, J) mc ms (.inl (some (.int (I 27 x1.toNatClampNeg)))) (mm_Λ, (mm_set (mm_set (mm_set (mm_set (mm_set I 28 ((4 * x1) + (I 27 x1.toNatClampNeg)).toNatClampNeg x2) 29 ((12 * x1) + (3 * (I 27 x1.toNatClampNeg))).toNatClampNeg x3) 29 (((12 * x1) + (3 * (I 27 x1.toNatClampNeg))) + 1).toNatClampNeg x4) 29 (((12 * x1) + (3 * (I 27 x1.toNatClampNeg))) + 2).toNatClampNeg x5) 27 x1.toNatClampNeg (((mm_set (mm_set (mm_set (mm_set I 28 ((4 * x1) + (I 27 x1.toNatClampNeg)).toNatClampNeg x2) 29 ((12 * x1) + (3 * (I 27 x1.toNatClampNeg))).toNatClampNeg x3) 29 (((12 * x1) + (3 * (I 27 x1.toNatClampNeg))) + 1).toNatClampNeg x4) 29 (((12 * x1) + (3 * (I 27 x1.toNatClampNeg))) + 2).toNatClampNeg x5) 27 x1.toNatClampNeg) + 1)), J) := by
  refine mm_aload_n (v := .ref 26) d101_165 rfl (Or.inl ⟨_, rfl⟩) ?_
  refine mm_getfield (v := .ref 27) d101_166 okc9 fk101_7 rfl rfl (by nofun) ?_
  refine mm_iload_n d101_169 rfl ?_
  refine mm_iaload d101_170 rfl i170 ?_
  refine mm_istore d101_171 (by decide +kernel) ?_
  refine mm_aload_n (v := .ref 26) d101_173 rfl (Or.inl ⟨_, rfl⟩) ?_
  refine mm_getfield (v := .ref 28) d101_174 okc9 fk101_13 rfl rfl (by nofun) ?_
  refine mm_ic d101_177 ci4 ?_
  refine mm_iload_n d101_178 rfl ?_
  refine mm_imul d101_179 ?_
  refine mm_iload d101_180 rfl ?_
  refine mm_iadd d101_182 ?_
  refine mm_iload_n d101_183 rfl ?_
  refine mm_iastore d101_184 rfl i184 ?_
  refine mm_aload_n (v := .ref 26) d101_185 rfl (Or.inl ⟨_, rfl⟩) ?_
  refine mm_getfield (v := .ref 29) d101_186 okc9 fk101_16 rfl rfl (by nofun) ?_
  refine mm_bi d101_189 cb12 ?_
  refine mm_iload_n d101_191 rfl ?_
  refine mm_imul d101_192 ?_
  refine mm_ic d101_193 ci3 ?_
  refine mm_iload d101_194 rfl ?_
  refine mm_imul d101_196 ?_
  refine mm_iadd d101_197 ?_
  refine mm_iload_n d101_198 rfl ?_
  refine mm_iastore d101_199 rfl i199 ?_
  refine mm_aload_n (v := .ref 26) d101_200 rfl (Or.inl ⟨_, rfl⟩) ?_
  refine mm_getfield (v := .ref 29) d101_201 okc9 fk101_16 rfl rfl (by nofun) ?_
  refine mm_bi d101_204 cb12 ?_
  refine mm_iload_n d101_206 rfl ?_
  refine mm_imul d101_207 ?_
  refine mm_ic d101_208 ci3 ?_
  refine mm_iload d101_209 rfl ?_
  refine mm_imul d101_211 ?_
  refine mm_iadd d101_212 ?_
  refine mm_ic d101_213 ci1 ?_
  refine mm_iadd d101_214 ?_
  refine mm_iload d101_215 rfl ?_
  refine mm_iastore d101_217 rfl i217 ?_
  refine mm_aload_n (v := .ref 26) d101_218 rfl (Or.inl ⟨_, rfl⟩) ?_
  refine mm_getfield (v := .ref 29) d101_219 okc9 fk101_16 rfl rfl (by nofun) ?_
  refine mm_bi d101_222 cb12 ?_
  refine mm_iload_n d101_224 rfl ?_
  refine mm_imul d101_225 ?_
  refine mm_ic d101_226 ci3 ?_
  refine mm_iload d101_227 rfl ?_
  refine mm_imul d101_229 ?_
  refine mm_iadd d101_230 ?_
  refine mm_ic d101_231 ci2 ?_
  refine mm_iadd d101_232 ?_
  refine mm_iload d101_233 rfl ?_
  refine mm_iastore d101_235 rfl i235 ?_
  refine mm_aload_n (v := .ref 26) d101_236 rfl (Or.inl ⟨_, rfl⟩) ?_
  refine mm_getfield (v := .ref 27) d101_237 okc9 fk101_7 rfl rfl (by nofun) ?_
  refine mm_iload_n d101_240 rfl ?_
  refine mm_dup2 d101_241 rfl rfl ?_
  refine mm_iaload d101_242 rfl i242 ?_
  refine mm_ic d101_243 ci1 ?_
  refine mm_iadd d101_244 ?_
  refine mm_iastore d101_245 rfl i245 ?_
  refine mm_iload d101_246 rfl ?_
  exact mm_ireturn d101_248 rfl
theorem b102_0 {l : Launch} {X : Nat × (Nat → Int32)} {d : Nat} {I : Nat → Nat → Int32} {J : Nat → Nat → Int64} {x0 : Int32} {mc ms : Nat} {o : mm_O} {σ' : mm_S} (kt : x0 < 0 → mm_Run l X 102 d 13 [.int x0] [] (mm_Λ, I, J) mc ms o σ') (kf : ¬ (x0 < 0) → mm_Run l X 102 d 4 [.int x0] [] (mm_Λ, I, J) mc ms o σ') : mm_Run l X 102 d 0 [.int x0] [] (mm_Λ, I, J) mc ms o σ' := by
  refine mm_iload_n d102_0 rfl ?_
  refine mm_if (tgt := 13) d102_1 (by decide) (fun h => ?_) (fun h => ?_)
  · exact kt h
  · exact kf h
theorem b102_4 {l : Launch} {X : Nat × (Nat → Int32)} {d : Nat} {I : Nat → Nat → Int32} {J : Nat → Nat → Int64} {x0 : Int32} {mc ms : Nat} {o : mm_O} {σ' : mm_S} (kt : 5 < x0 → mm_Run l X 102 d 13 [.int x0] [] (mm_Λ, I, J) mc ms o σ') (kf : ¬ (5 < x0) → mm_Run l X 102 d 9 [.int x0] [] (mm_Λ, I, J) mc ms o σ') : mm_Run l X 102 d 4 [.int x0] [] (mm_Λ, I, J) mc ms o σ' := by
  refine mm_iload_n d102_4 rfl ?_
  refine mm_ic d102_5 ci5 ?_
  refine mm_icmp (tgt := 13) d102_6 (by decide) (fun h => ?_) (fun h => ?_)
  · exact kt h
  · exact kf h
theorem b102_9 {l : Launch} {X : Nat × (Nat → Int32)} {d : Nat} {I : Nat → Nat → Int32} {J : Nat → Nat → Int64} {x0 : Int32} {mc ms : Nat} {o : mm_O} {σ' : mm_S} (hr : mm_Run l X 102 d 14 [.int x0] [.int 1] (mm_Λ, I, J) mc ms o σ') : mm_Run l X 102 d 9 [.int x0] [] (mm_Λ, I, J) mc ms o σ' := by
  refine mm_ic d102_9 ci1 ?_
  refine mm_goto (tgt := 14) d102_10 (by decide) ?_
  exact hr
theorem b102_13 {l : Launch} {X : Nat × (Nat → Int32)} {d : Nat} {I : Nat → Nat → Int32} {J : Nat → Nat → Int64} {x0 : Int32} {mc ms : Nat} {o : mm_O} {σ' : mm_S} (hr : mm_Run l X 102 d 14 [.int x0] [.int 0] (mm_Λ, I, J) mc ms o σ') : mm_Run l X 102 d 13 [.int x0] [] (mm_Λ, I, J) mc ms o σ' := by
  refine mm_ic d102_13 ci0 ?_
  exact hr
theorem b102_14 {l : Launch} {X : Nat × (Nat → Int32)} {d : Nat} {I : Nat → Nat → Int32} {J : Nat → Nat → Int64} {x0 : Int32} {s0 : Int32} {mc ms : Nat} (hz : s0 = 0 ∨ s0 = 1) : mm_Run l X 102 d 14 [.int x0] [.int s0] (mm_Λ, I, J) mc ms (.inl (some (.int s0))) (mm_Λ, I, J) := by
  exact mm_zreturn d102_14 rfl hz
theorem b103_0 {l : Launch} {X : Nat × (Nat → Int32)} {d : Nat} {I : Nat → Nat → Int32} {J : Nat → Nat → Int64} {x1 : Int32} {x2 : Int32} {mc ms : Nat} {o : mm_O} {σ' : mm_S} {r : Int32} {I1 : Nat → Nat → Int32} {J1 : Nat → Nat → Int64} (hcall : mm_Call l X 104 d [.int x1, .int x2] (mm_Λ, I, J) 0 0 (.inl (some (.int r))) (mm_Λ, I1, J1)) (hr : mm_Run l X 103 (d + 1) 6 [.ref 26, .int x1, .int x2] [.int r, .ref 26] (mm_Λ, I1, J1) mc ms o σ') : mm_Run l X 103 (d + 1) 0 [.ref 26, .int x1, .int x2] [] (mm_Λ, I, J) mc ms o σ' := by
  refine mm_aload_n (v := .ref 26) d103_0 rfl (Or.inl ⟨_, rfl⟩) ?_
  refine mm_iload_n d103_1 rfl ?_
  refine mm_iload_n d103_2 rfl ?_
  exact mm_callS0 (as := [.int x1, .int x2]) (S := [.ref 26]) d103_3 okm104 ln103_101 st104 rfl rfl (Nat.le_of_ble_eq_true rfl) (Nat.le_of_ble_eq_true rfl) hcall hr
theorem b103_6 {l : Launch} {X : Nat × (Nat → Int32)} {d : Nat} {I : Nat → Nat → Int32} {J : Nat → Nat → Int64} {x1 : Int32} {x2 : Int32} {s0 : Int32} {mc ms : Nat} {o : mm_O} {σ' : mm_S} (kt : ((mm_set I 26 0 s0) 26 0) ≤ 0 → mm_Run l X 103 (d + 1) 18 [.ref 26, .int x1, .int x2] [] (mm_Λ, (mm_set I 26 0 s0), J) mc ms o σ') (kf : ¬ (((mm_set I 26 0 s0) 26 0) ≤ 0) → mm_Run l X 103 (d + 1) 16 [.ref 26, .int x1, .int x2] [] (mm_Λ, (mm_set I 26 0 s0), J) mc ms o σ') : mm_Run l X 103 (d + 1) 6 [.ref 26, .int x1, .int x2] [.int s0, .ref 26] (mm_Λ, I, J) mc ms o σ' := by
  refine mm_putfield d103_6 okc9 fk103_65 fp103_65 rfl rfl rfl ?_
  refine mm_aload_n (v := .ref 26) d103_9 rfl (Or.inl ⟨_, rfl⟩) ?_
  refine mm_getfield (v := .int ((mm_set I 26 0 s0) 26 0)) d103_10 okc9 fk103_65 rfl rfl (by nofun) ?_
  refine mm_if (tgt := 18) d103_13 (by decide) (fun h => ?_) (fun h => ?_)
  · exact kt h
  · exact kf h
theorem b103_16 {l : Launch} {X : Nat × (Nat → Int32)} {d : Nat} {I : Nat → Nat → Int32} {J : Nat → Nat → Int64} {x1 : Int32} {x2 : Int32} {mc ms : Nat}  : mm_Run l X 103 (d + 1) 16 [.ref 26, .int x1, .int x2] [] (mm_Λ, I, J) mc ms (.inl (some (.long 0))) (mm_Λ, I, J) := by
  refine mm_lc d103_16 lc0 ?_
  exact mm_lreturn d103_17 rfl
theorem b103_18 {l : Launch} {X : Nat × (Nat → Int32)} {d : Nat} {I : Nat → Nat → Int32} {J : Nat → Nat → Int64} {x1 : Int32} {x2 : Int32} {mc ms : Nat} {o : mm_O} {σ' : mm_S} {I1 : Nat → Nat → Int32} {J1 : Nat → Nat → Int64} (hcall : mm_Call l X 105 d [.ref 26] (mm_Λ, I, J) 0 0 (.inl none) (mm_Λ, I1, J1)) (hr : mm_Run l X 103 (d + 1) 22 [.ref 26, .int x1, .int x2] [] (mm_Λ, I1, J1) mc ms o σ') : mm_Run l X 103 (d + 1) 18 [.ref 26, .int x1, .int x2] [] (mm_Λ, I, J) mc ms o σ' := by
  refine mm_aload_n (v := .ref 26) d103_18 rfl (Or.inl ⟨_, rfl⟩) ?_
  exact mm_callV0 (as := []) (S := []) d103_19 okm105 ln103_105 im105 se105 rfl ⟨_, _, rfl⟩ rfl rfl (Nat.le_of_ble_eq_true rfl) (Nat.le_of_ble_eq_true rfl) hcall hr
theorem b103_22 {l : Launch} {X : Nat × (Nat → Int32)} {d : Nat} {I : Nat → Nat → Int32} {J : Nat → Nat → Int64} {x1 : Int32} {x2 : Int32} {mc ms : Nat} (i34 : vp_in (((6 * x1) + x2) + 1) 36) : mm_Run l X 103 (d + 1) 22 [.ref 26, .int x1, .int x2] [] (mm_Λ, I, J) mc ms (.inl (some (.long (J 30 (((6 * x1) + x2) + 1).toNatClampNeg)))) (mm_Λ, I, J) := by
  refine mm_aload_n (v := .ref 26) d103_22 rfl (Or.inl ⟨_, rfl⟩) ?_
  refine mm_getfield (v := .ref 30) d103_23 okc9 fk103_19 rfl rfl (by nofun) ?_
  refine mm_bi d103_26 cb6 ?_
  refine mm_iload_n d103_28 rfl ?_
  refine mm_imul d103_29 ?_
  refine mm_iload_n d103_30 rfl ?_
  refine mm_iadd d103_31 ?_
  refine mm_ic d103_32 ci1 ?_
  refine mm_iadd d103_33 ?_
  refine mm_laload d103_34 rfl i34 ?_
  exact mm_lreturn d103_35 rfl
theorem b104_0 {l : Launch} {X : Nat × (Nat → Int32)} {d : Nat} {I : Nat → Nat → Int32} {J : Nat → Nat → Int64} {x0 : Int32} {x1 : Int32} {mc ms : Nat} {o : mm_O} {σ' : mm_S} {r : Int32} {I1 : Nat → Nat → Int32} {J1 : Nat → Nat → Int64} (hcall : mm_Call l X 102 d [.int x0] (mm_Λ, I, J) 0 0 (.inl (some (.int r))) (mm_Λ, I1, J1)) (hr : mm_Run l X 104 (d + 1) 4 [.int x0, .int x1] [.int r] (mm_Λ, I1, J1) mc ms o σ') : mm_Run l X 104 (d + 1) 0 [.int x0, .int x1] [] (mm_Λ, I, J) mc ms o σ' := by
  refine mm_iload_n d104_0 rfl ?_
  exact mm_callS0 (as := [.int x0]) (S := []) d104_1 okm102 ln104_69 st102 rfl rfl (Nat.le_of_ble_eq_true rfl) (Nat.le_of_ble_eq_true rfl) hcall hr
theorem b104_4 {l : Launch} {X : Nat × (Nat → Int32)} {d : Nat} {I : Nat → Nat → Int32} {J : Nat → Nat → Int64} {x0 : Int32} {x1 : Int32} {s0 : Int32} {mc ms : Nat} {o : mm_O} {σ' : mm_S} (kt : ¬ s0 = 0 → mm_Run l X 104 (d + 1) 11 [.int x0, .int x1] [] (mm_Λ, I, J) mc ms o σ') (kf : ¬ (¬ s0 = 0) → mm_Run l X 104 (d + 1) 7 [.int x0, .int x1] [] (mm_Λ, I, J) mc ms o σ') : mm_Run l X 104 (d + 1) 4 [.int x0, .int x1] [.int s0] (mm_Λ, I, J) mc ms o σ' := by
  refine mm_if (tgt := 11) d104_4 (by decide) (fun h => ?_) (fun h => ?_)
  · exact kt h
  · exact kf h
theorem b104_7 {l : Launch} {X : Nat × (Nat → Int32)} {d : Nat} {I : Nat → Nat → Int32} {J : Nat → Nat → Int64} {x0 : Int32} {x1 : Int32} {mc ms : Nat} {o : mm_O} {σ' : mm_S} (hr : mm_Run l X 104 (d + 1) 25 [.int x0, .int x1] [.int 1] (mm_Λ, I, J) mc ms o σ') : mm_Run l X 104 (d + 1) 7 [.int x0, .int x1] [] (mm_Λ, I, J) mc ms o σ' := by
  refine mm_ic d104_7 ci1 ?_
  refine mm_goto (tgt := 25) d104_8 (by decide) ?_
  exact hr
theorem b104_11 {l : Launch} {X : Nat × (Nat → Int32)} {d : Nat} {I : Nat → Nat → Int32} {J : Nat → Nat → Int64} {x0 : Int32} {x1 : Int32} {mc ms : Nat} {o : mm_O} {σ' : mm_S} (kt : x1 < 0 → mm_Run l X 104 (d + 1) 20 [.int x0, .int x1] [] (mm_Λ, I, J) mc ms o σ') (kf : ¬ (x1 < 0) → mm_Run l X 104 (d + 1) 15 [.int x0, .int x1] [] (mm_Λ, I, J) mc ms o σ') : mm_Run l X 104 (d + 1) 11 [.int x0, .int x1] [] (mm_Λ, I, J) mc ms o σ' := by
  refine mm_iload_n d104_11 rfl ?_
  refine mm_if (tgt := 20) d104_12 (by decide) (fun h => ?_) (fun h => ?_)
  · exact kt h
  · exact kf h
theorem b104_15 {l : Launch} {X : Nat × (Nat → Int32)} {d : Nat} {I : Nat → Nat → Int32} {J : Nat → Nat → Int64} {x0 : Int32} {x1 : Int32} {mc ms : Nat} {o : mm_O} {σ' : mm_S} (kt : x1 ≤ 4 → mm_Run l X 104 (d + 1) 24 [.int x0, .int x1] [] (mm_Λ, I, J) mc ms o σ') (kf : ¬ (x1 ≤ 4) → mm_Run l X 104 (d + 1) 20 [.int x0, .int x1] [] (mm_Λ, I, J) mc ms o σ') : mm_Run l X 104 (d + 1) 15 [.int x0, .int x1] [] (mm_Λ, I, J) mc ms o σ' := by
  refine mm_iload_n d104_15 rfl ?_
  refine mm_ic d104_16 ci4 ?_
  refine mm_icmp (tgt := 24) d104_17 (by decide) (fun h => ?_) (fun h => ?_)
  · exact kt h
  · exact kf h
theorem b104_20 {l : Launch} {X : Nat × (Nat → Int32)} {d : Nat} {I : Nat → Nat → Int32} {J : Nat → Nat → Int64} {x0 : Int32} {x1 : Int32} {mc ms : Nat} {o : mm_O} {σ' : mm_S} (hr : mm_Run l X 104 (d + 1) 25 [.int x0, .int x1] [.int 2] (mm_Λ, I, J) mc ms o σ') : mm_Run l X 104 (d + 1) 20 [.int x0, .int x1] [] (mm_Λ, I, J) mc ms o σ' := by
  refine mm_ic d104_20 ci2 ?_
  refine mm_goto (tgt := 25) d104_21 (by decide) ?_
  exact hr
theorem b104_24 {l : Launch} {X : Nat × (Nat → Int32)} {d : Nat} {I : Nat → Nat → Int32} {J : Nat → Nat → Int64} {x0 : Int32} {x1 : Int32} {mc ms : Nat} {o : mm_O} {σ' : mm_S} (hr : mm_Run l X 104 (d + 1) 25 [.int x0, .int x1] [.int 0] (mm_Λ, I, J) mc ms o σ') : mm_Run l X 104 (d + 1) 24 [.int x0, .int x1] [] (mm_Λ, I, J) mc ms o σ' := by
  refine mm_ic d104_24 ci0 ?_
  exact hr
theorem b104_25 {l : Launch} {X : Nat × (Nat → Int32)} {d : Nat} {I : Nat → Nat → Int32} {J : Nat → Nat → Int64} {x0 : Int32} {x1 : Int32} {s0 : Int32} {mc ms : Nat}  : mm_Run l X 104 (d + 1) 25 [.int x0, .int x1] [.int s0] (mm_Λ, I, J) mc ms (.inl (some (.int s0))) (mm_Λ, I, J) := by
  exact mm_ireturn d104_25 rfl
theorem b105_0 {l : Launch} {X : Nat × (Nat → Int32)} {d : Nat} {I : Nat → Nat → Int32} {J : Nat → Nat → Int64}  {mc ms : Nat} {o : mm_O} {σ' : mm_S} (hr : mm_Run l X 105 (d + 1) 2 [.ref 26, .int 0, .null, .null, .null, .null] [] (mm_Λ, I, J) mc ms o σ') : mm_Run l X 105 (d + 1) 0 [.ref 26, .null, .null, .null, .null, .null] [] (mm_Λ, I, J) mc ms o σ' := by
  refine mm_ic d105_0 ci0 ?_
  refine mm_istore_n d105_1 (by decide +kernel) ?_
  exact hr
theorem b105_2 {l : Launch} {X : Nat × (Nat → Int32)} {d : Nat} {I : Nat → Nat → Int32} {J : Nat → Nat → Int64} {x1 : Int32} {mc ms : Nat} {o : mm_O} {σ' : mm_S} (kt : 6 ≤ x1 → mm_Run l X 105 (d + 1) 24 [.ref 26, .int x1, .null, .null, .null, .null] [] (mm_Λ, I, J) mc ms o σ') (kf : ¬ (6 ≤ x1) → mm_Run l X 105 (d + 1) 8 [.ref 26, .int x1, .null, .null, .null, .null] [] (mm_Λ, I, J) mc ms o σ') : mm_Run l X 105 (d + 1) 2 [.ref 26, .int x1, .null, .null, .null, .null] [] (mm_Λ, I, J) mc ms o σ' := by
  refine mm_iload_n d105_2 rfl ?_
  refine mm_bi d105_3 cb6 ?_
  refine mm_icmp (tgt := 24) d105_5 (by decide) (fun h => ?_) (fun h => ?_)
  · exact kt h
  · exact kf h
theorem b105_8 {l : Launch} {X : Nat × (Nat → Int32)} {d : Nat} {I : Nat → Nat → Int32} {J : Nat → Nat → Int64} {x1 : Int32} {mc ms : Nat} {o : mm_O} {σ' : mm_S} (i17 : vp_in (6 * x1) 36) (hr : mm_Run l X 105 (d + 1) 2 [.ref 26, .int (x1 + 1), .null, .null, .null, .null] [] (mm_Λ, I, (mm_set J 30 (6 * x1).toNatClampNeg 0)) mc ms o σ') : mm_Run l X 105 (d + 1) 8 [.ref 26, .int x1, .null, .null, .null, .null] [] (mm_Λ, I, J) mc ms o σ' := by
  refine mm_aload_n (v := .ref 26) d105_8 rfl (Or.inl ⟨_, rfl⟩) ?_
  refine mm_getfield (v := .ref 30) d105_9 okc9 fk105_19 rfl rfl (by nofun) ?_
  refine mm_bi d105_12 cb6 ?_
  refine mm_iload_n d105_14 rfl ?_
  refine mm_imul d105_15 ?_
  refine mm_lc d105_16 lc0 ?_
  refine mm_lastore d105_17 rfl i17 ?_
  refine mm_ii d105_18 ci1 rfl (by decide +kernel) ?_
  refine mm_goto (tgt := 2) d105_21 (by decide) ?_
  exact hr
theorem b105_24 {l : Launch} {X : Nat × (Nat → Int32)} {d : Nat} {I : Nat → Nat → Int32} {J : Nat → Nat → Int64} {x1 : Int32} {mc ms : Nat} {o : mm_O} {σ' : mm_S} (hr : mm_Run l X 105 (d + 1) 26 [.ref 26, .int 0, .null, .null, .null, .null] [] (mm_Λ, I, J) mc ms o σ') : mm_Run l X 105 (d + 1) 24 [.ref 26, .int x1, .null, .null, .null, .null] [] (mm_Λ, I, J) mc ms o σ' := by
  refine mm_ic d105_24 ci0 ?_
  refine mm_istore_n d105_25 (by decide +kernel) ?_
  exact hr
theorem b105_26 {l : Launch} {X : Nat × (Nat → Int32)} {d : Nat} {I : Nat → Nat → Int32} {J : Nat → Nat → Int64} {x1 : Int32} {mc ms : Nat} {o : mm_O} {σ' : mm_S} (kt : 5 ≤ x1 → mm_Run l X 105 (d + 1) 100 [.ref 26, .int x1, .null, .null, .null, .null] [] (mm_Λ, I, J) mc ms o σ') (kf : ¬ (5 ≤ x1) → mm_Run l X 105 (d + 1) 31 [.ref 26, .int x1, .null, .null, .null, .null] [] (mm_Λ, I, J) mc ms o σ') : mm_Run l X 105 (d + 1) 26 [.ref 26, .int x1, .null, .null, .null, .null] [] (mm_Λ, I, J) mc ms o σ' := by
  refine mm_iload_n d105_26 rfl ?_
  refine mm_ic d105_27 ci5 ?_
  refine mm_icmp (tgt := 100) d105_28 (by decide) (fun h => ?_) (fun h => ?_)
  · exact kt h
  · exact kf h
theorem b105_31 {l : Launch} {X : Nat × (Nat → Int32)} {d : Nat} {I : Nat → Nat → Int32} {J : Nat → Nat → Int64} {x1 : Int32} {mc ms : Nat} {o : mm_O} {σ' : mm_S} (hr : mm_Run l X 105 (d + 1) 33 [.ref 26, .int x1, .int 0, .null, .null, .null] [] (mm_Λ, I, J) mc ms o σ') : mm_Run l X 105 (d + 1) 31 [.ref 26, .int x1, .null, .null, .null, .null] [] (mm_Λ, I, J) mc ms o σ' := by
  refine mm_ic d105_31 ci0 ?_
  refine mm_istore_n d105_32 (by decide +kernel) ?_
  exact hr
theorem b105_33 {l : Launch} {X : Nat × (Nat → Int32)} {d : Nat} {I : Nat → Nat → Int32} {J : Nat → Nat → Int64} {x1 : Int32} {x2 : Int32} {mc ms : Nat} {o : mm_O} {σ' : mm_S} (kt : 6 ≤ x2 → mm_Run l X 105 (d + 1) 94 [.ref 26, .int x1, .int x2, .null, .null, .null] [] (mm_Λ, I, J) mc ms o σ') (kf : ¬ (6 ≤ x2) → mm_Run l X 105 (d + 1) 39 [.ref 26, .int x1, .int x2, .null, .null, .null] [] (mm_Λ, I, J) mc ms o σ') : mm_Run l X 105 (d + 1) 33 [.ref 26, .int x1, .int x2, .null, .null, .null] [] (mm_Λ, I, J) mc ms o σ' := by
  refine mm_iload_n d105_33 rfl ?_
  refine mm_bi d105_34 cb6 ?_
  refine mm_icmp (tgt := 94) d105_36 (by decide) (fun h => ?_) (fun h => ?_)
  · exact kt h
  · exact kf h
theorem b105_39 {l : Launch} {X : Nat × (Nat → Int32)} {d : Nat} {I : Nat → Nat → Int32} {J : Nat → Nat → Int64} {x1 : Int32} {x2 : Int32} {mc ms : Nat} {o : mm_O} {σ' : mm_S} (hr : mm_Run l X 105 (d + 1) 44 [.ref 26, .int x1, .int x2, .long 0, .null, .int 0] [] (mm_Λ, I, J) mc ms o σ') : mm_Run l X 105 (d + 1) 39 [.ref 26, .int x1, .int x2, .null, .null, .null] [] (mm_Λ, I, J) mc ms o σ' := by
  refine mm_lc d105_39 lc0 ?_
  refine mm_lstore_n d105_40 (by decide +kernel) ?_
  refine mm_ic d105_41 ci0 ?_
  refine mm_istore d105_42 (by decide +kernel) ?_
  exact hr
theorem b105_44 {l : Launch} {X : Nat × (Nat → Int32)} {d : Nat} {I : Nat → Nat → Int32} {J : Nat → Nat → Int64} {x1 : Int32} {x2 : Int32} {x3 : Int64} {x5 : Int32} {mc ms : Nat} {o : mm_O} {σ' : mm_S} (i51 : vp_in x2 6) (kt : (I 27 x2.toNatClampNeg) ≤ x5 → mm_Run l X 105 (d + 1) 74 [.ref 26, .int x1, .int x2, .long x3, .null, .int x5] [] (mm_Λ, I, J) mc ms o σ') (kf : ¬ ((I 27 x2.toNatClampNeg) ≤ x5) → mm_Run l X 105 (d + 1) 55 [.ref 26, .int x1, .int x2, .long x3, .null, .int x5] [] (mm_Λ, I, J) mc ms o σ') : mm_Run l X 105 (d + 1) 44 [.ref 26, .int x1, .int x2, .long x3, .null, .int x5] [] (mm_Λ, I, J) mc ms o σ' := by
  refine mm_iload d105_44 rfl ?_
  refine mm_aload_n (v := .ref 26) d105_46 rfl (Or.inl ⟨_, rfl⟩) ?_
  refine mm_getfield (v := .ref 27) d105_47 okc9 fk105_7 rfl rfl (by nofun) ?_
  refine mm_iload_n d105_50 rfl ?_
  refine mm_iaload d105_51 rfl i51 ?_
  refine mm_icmp (tgt := 74) d105_52 (by decide) (fun h => ?_) (fun h => ?_)
  · exact kt h
  · exact kf h
theorem b105_55 {l : Launch} {X : Nat × (Nat → Int32)} {d : Nat} {I : Nat → Nat → Int32} {J : Nat → Nat → Int64} {x1 : Int32} {x2 : Int32} {x3 : Int64} {x5 : Int32} {mc ms : Nat} {o : mm_O} {σ' : mm_S} {r : Int64} {I1 : Nat → Nat → Int32} {J1 : Nat → Nat → Int64} (hcall : mm_Call l X 106 d [.ref 26, .int x2, .int x5, .int x1] (mm_Λ, I, J) 0 0 (.inl (some (.long r))) (mm_Λ, I1, J1)) (hr : mm_Run l X 105 (d + 1) 64 [.ref 26, .int x1, .int x2, .long x3, .null, .int x5] [.long r, .long x3] (mm_Λ, I1, J1) mc ms o σ') : mm_Run l X 105 (d + 1) 55 [.ref 26, .int x1, .int x2, .long x3, .null, .int x5] [] (mm_Λ, I, J) mc ms o σ' := by
  refine mm_lload_n d105_55 rfl ?_
  refine mm_aload_n (v := .ref 26) d105_56 rfl (Or.inl ⟨_, rfl⟩) ?_
  refine mm_iload_n d105_57 rfl ?_
  refine mm_iload d105_58 rfl ?_
  refine mm_iload_n d105_60 rfl ?_
  exact mm_callV0 (as := [.int x2, .int x5, .int x1]) (S := [.long x3]) d105_61 okm106 ln105_83 im106 se106 rfl ⟨_, _, rfl⟩ rfl rfl (Nat.le_of_ble_eq_true rfl) (Nat.le_of_ble_eq_true rfl) hcall hr
theorem b105_64 {l : Launch} {X : Nat × (Nat → Int32)} {d : Nat} {I : Nat → Nat → Int32} {J : Nat → Nat → Int64} {x1 : Int32} {x2 : Int32} {x3 : Int64} {x5 : Int32} {s0 : Int64} {s1 : Int64} {mc ms : Nat} {o : mm_O} {σ' : mm_S} {r : Int64} {I1 : Nat → Nat → Int32} {J1 : Nat → Nat → Int64} (hcall : mm_Call l X 109 d [.long s1, .long s0] (mm_Λ, I, J) 0 0 (.inl (some (.long r))) (mm_Λ, I1, J1)) (hr : mm_Run l X 105 (d + 1) 67 [.ref 26, .int x1, .int x2, .long x3, .null, .int x5] [.long r] (mm_Λ, I1, J1) mc ms o σ') : mm_Run l X 105 (d + 1) 64 [.ref 26, .int x1, .int x2, .long x3, .null, .int x5] [.long s0, .long s1] (mm_Λ, I, J) mc ms o σ' := by
  exact mm_callS0 (as := [.long s1, .long s0]) (S := []) d105_64 okm109 ln105_87 st109 rfl rfl (Nat.le_of_ble_eq_true rfl) (Nat.le_of_ble_eq_true rfl) hcall hr
theorem b105_67 {l : Launch} {X : Nat × (Nat → Int32)} {d : Nat} {I : Nat → Nat → Int32} {J : Nat → Nat → Int64} {x1 : Int32} {x2 : Int32} {x3 : Int64} {x5 : Int32} {s0 : Int64} {mc ms : Nat} {o : mm_O} {σ' : mm_S} (hr : mm_Run l X 105 (d + 1) 44 [.ref 26, .int x1, .int x2, .long s0, .null, .int (x5 + 1)] [] (mm_Λ, I, J) mc ms o σ') : mm_Run l X 105 (d + 1) 67 [.ref 26, .int x1, .int x2, .long x3, .null, .int x5] [.long s0] (mm_Λ, I, J) mc ms o σ' := by
  refine mm_lstore_n d105_67 (by decide +kernel) ?_
  refine mm_ii d105_68 ci1 rfl (by decide +kernel) ?_
  refine mm_goto (tgt := 44) d105_71 (by decide) ?_
  exact hr
theorem b105_74 {l : Launch} {X : Nat × (Nat → Int32)} {d : Nat} {I : Nat → Nat → Int32} {J : Nat → Nat → Int64} {x1 : Int32} {x2 : Int32} {x3 : Int64} {x5 : Int32} {mc ms : Nat} {o : mm_O} {σ' : mm_S} (i87 : vp_in (((6 * x2) + x1) + 1) 36) (hr : mm_Run l X 105 (d + 1) 33 [.ref 26, .int x1, .int (x2 + 1), .null, .null, .null] [] (mm_Λ, I, (mm_set J 30 (((6 * x2) + x1) + 1).toNatClampNeg x3)) mc ms o σ') : mm_Run l X 105 (d + 1) 74 [.ref 26, .int x1, .int x2, .long x3, .null, .int x5] [] (mm_Λ, I, J) mc ms o σ' := by
  refine mm_aload_n (v := .ref 26) d105_74 rfl (Or.inl ⟨_, rfl⟩) ?_
  refine mm_getfield (v := .ref 30) d105_75 okc9 fk105_19 rfl rfl (by nofun) ?_
  refine mm_bi d105_78 cb6 ?_
  refine mm_iload_n d105_80 rfl ?_
  refine mm_imul d105_81 ?_
  refine mm_iload_n d105_82 rfl ?_
  refine mm_iadd d105_83 ?_
  refine mm_ic d105_84 ci1 ?_
  refine mm_iadd d105_85 ?_
  refine mm_lload_n d105_86 rfl ?_
  refine mm_lastore d105_87 rfl i87 ?_
  refine mm_ii d105_88 ci1 rfl (by decide +kernel) ?_
  refine mm_goto (tgt := 33) d105_91 (by decide) ?_
  exact mm_forget hr (by exact ⟨rfl, rfl, rfl, trivial⟩)
theorem b105_94 {l : Launch} {X : Nat × (Nat → Int32)} {d : Nat} {I : Nat → Nat → Int32} {J : Nat → Nat → Int64} {x1 : Int32} {x2 : Int32} {mc ms : Nat} {o : mm_O} {σ' : mm_S} (hr : mm_Run l X 105 (d + 1) 26 [.ref 26, .int (x1 + 1), .null, .null, .null, .null] [] (mm_Λ, I, J) mc ms o σ') : mm_Run l X 105 (d + 1) 94 [.ref 26, .int x1, .int x2, .null, .null, .null] [] (mm_Λ, I, J) mc ms o σ' := by
  refine mm_ii d105_94 ci1 rfl (by decide +kernel) ?_
  refine mm_goto (tgt := 26) d105_97 (by decide) ?_
  exact mm_forget hr (by exact ⟨rfl, rfl, trivial⟩)
theorem b105_100 {l : Launch} {X : Nat × (Nat → Int32)} {d : Nat} {I : Nat → Nat → Int32} {J : Nat → Nat → Int64} {x1 : Int32} {mc ms : Nat}  : mm_Run l X 105 (d + 1) 100 [.ref 26, .int x1, .null, .null, .null, .null] [] (mm_Λ, I, J) mc ms (.inl none) (mm_Λ, I, J) := by
  exact mm_vreturn d105_100 rfl
theorem b106_0 {l : Launch} {X : Nat × (Nat → Int32)} {d : Nat} {I : Nat → Nat → Int32} {J : Nat → Nat → Int64} {x1 : Int32} {x2 : Int32} {x3 : Int32} {mc ms : Nat} {o : mm_O} {σ' : mm_S} (hr : mm_Run l X 106 (d + 1) 6 [.ref 26, .int x1, .int x2, .int x3, .long 1, .null, .int 0] [] (mm_Λ, I, J) mc ms o σ') : mm_Run l X 106 (d + 1) 0 [.ref 26, .int x1, .int x2, .int x3, .null, .null, .null] [] (mm_Λ, I, J) mc ms o σ' := by
  refine mm_lc d106_0 lc1 ?_
  refine mm_lstore d106_1 (by decide +kernel) ?_
  refine mm_ic d106_3 ci0 ?_
  refine mm_istore d106_4 (by decide +kernel) ?_
  exact hr
theorem b106_6 {l : Launch} {X : Nat × (Nat → Int32)} {d : Nat} {I : Nat → Nat → Int32} {J : Nat → Nat → Int64} {x1 : Int32} {x2 : Int32} {x3 : Int32} {x4 : Int64} {x6 : Int32} {mc ms : Nat} {o : mm_O} {σ' : mm_S} (i17 : vp_in ((4 * x1) + x2) 24) (kt : (I 28 ((4 * x1) + x2).toNatClampNeg) ≤ x6 → mm_Run l X 106 (d + 1) 52 [.ref 26, .int x1, .int x2, .int x3, .long x4, .null, .int x6] [] (mm_Λ, I, J) mc ms o σ') (kf : ¬ ((I 28 ((4 * x1) + x2).toNatClampNeg) ≤ x6) → mm_Run l X 106 (d + 1) 21 [.ref 26, .int x1, .int x2, .int x3, .long x4, .null, .int x6] [] (mm_Λ, I, J) mc ms o σ') : mm_Run l X 106 (d + 1) 6 [.ref 26, .int x1, .int x2, .int x3, .long x4, .null, .int x6] [] (mm_Λ, I, J) mc ms o σ' := by
  refine mm_iload d106_6 rfl ?_
  refine mm_aload_n (v := .ref 26) d106_8 rfl (Or.inl ⟨_, rfl⟩) ?_
  refine mm_getfield (v := .ref 28) d106_9 okc9 fk106_13 rfl rfl (by nofun) ?_
  refine mm_ic d106_12 ci4 ?_
  refine mm_iload_n d106_13 rfl ?_
  refine mm_imul d106_14 ?_
  refine mm_iload_n d106_15 rfl ?_
  refine mm_iadd d106_16 ?_
  refine mm_iaload d106_17 rfl i17 ?_
  refine mm_icmp (tgt := 52) d106_18 (by decide) (fun h => ?_) (fun h => ?_)
  · exact kt h
  · exact kf h
theorem b106_21 {l : Launch} {X : Nat × (Nat → Int32)} {d : Nat} {I : Nat → Nat → Int32} {J : Nat → Nat → Int64} {x1 : Int32} {x2 : Int32} {x3 : Int32} {x4 : Int64} {x6 : Int32} {mc ms : Nat} {o : mm_O} {σ' : mm_S} {r : Int32} {I1 : Nat → Nat → Int32} {J1 : Nat → Nat → Int64} (hcall : mm_Call l X 107 d [.ref 26, .int x1, .int x2, .int x6] (mm_Λ, I, J) 0 0 (.inl (some (.int r))) (mm_Λ, I1, J1)) (hr : mm_Run l X 106 (d + 1) 37 [.ref 26, .int x1, .int x2, .int x3, .long x4, .null, .int x6] [.int r, .int 6, .ref 30, .long x4] (mm_Λ, I1, J1) mc ms o σ') : mm_Run l X 106 (d + 1) 21 [.ref 26, .int x1, .int x2, .int x3, .long x4, .null, .int x6] [] (mm_Λ, I, J) mc ms o σ' := by
  refine mm_lload d106_21 rfl ?_
  refine mm_aload_n (v := .ref 26) d106_23 rfl (Or.inl ⟨_, rfl⟩) ?_
  refine mm_getfield (v := .ref 30) d106_24 okc9 fk106_19 rfl rfl (by nofun) ?_
  refine mm_bi d106_27 cb6 ?_
  refine mm_aload_n (v := .ref 26) d106_29 rfl (Or.inl ⟨_, rfl⟩) ?_
  refine mm_iload_n d106_30 rfl ?_
  refine mm_iload_n d106_31 rfl ?_
  refine mm_iload d106_32 rfl ?_
  exact mm_callV0 (as := [.int x1, .int x2, .int x6]) (S := [.int 6, .ref 30, .long x4]) d106_34 okm107 ln106_75 im107 se107 rfl ⟨_, _, rfl⟩ rfl rfl (Nat.le_of_ble_eq_true rfl) (Nat.le_of_ble_eq_true rfl) hcall hr
theorem b106_37 {l : Launch} {X : Nat × (Nat → Int32)} {d : Nat} {I : Nat → Nat → Int32} {J : Nat → Nat → Int64} {x1 : Int32} {x2 : Int32} {x3 : Int32} {x4 : Int64} {x6 : Int32} {s0 : Int32} {s1 : Int32} {s3 : Int64} {mc ms : Nat} {o : mm_O} {σ' : mm_S} (i40 : vp_in ((s1 * s0) + x3) 36) {r : Int64} {I1 : Nat → Nat → Int32} {J1 : Nat → Nat → Int64} (hcall : mm_Call l X 108 d [.long s3, .long (J 30 ((s1 * s0) + x3).toNatClampNeg)] (mm_Λ, I, J) 0 0 (.inl (some (.long r))) (mm_Λ, I1, J1)) (hr : mm_Run l X 106 (d + 1) 44 [.ref 26, .int x1, .int x2, .int x3, .long x4, .null, .int x6] [.long r] (mm_Λ, I1, J1) mc ms o σ') : mm_Run l X 106 (d + 1) 37 [.ref 26, .int x1, .int x2, .int x3, .long x4, .null, .int x6] [.int s0, .int s1, .ref 30, .long s3] (mm_Λ, I, J) mc ms o σ' := by
  refine mm_imul d106_37 ?_
  refine mm_iload_n d106_38 rfl ?_
  refine mm_iadd d106_39 ?_
  refine mm_laload d106_40 rfl i40 ?_
  exact mm_callS0 (as := [.long s3, .long (J 30 ((s1 * s0) + x3).toNatClampNeg)]) (S := []) d106_41 okm108 ln106_79 st108 rfl rfl (Nat.le_of_ble_eq_true rfl) (Nat.le_of_ble_eq_true rfl) hcall hr
theorem b106_44 {l : Launch} {X : Nat × (Nat → Int32)} {d : Nat} {I : Nat → Nat → Int32} {J : Nat → Nat → Int64} {x1 : Int32} {x2 : Int32} {x3 : Int32} {x4 : Int64} {x6 : Int32} {s0 : Int64} {mc ms : Nat} {o : mm_O} {σ' : mm_S} (hr : mm_Run l X 106 (d + 1) 6 [.ref 26, .int x1, .int x2, .int x3, .long s0, .null, .int (x6 + 1)] [] (mm_Λ, I, J) mc ms o σ') : mm_Run l X 106 (d + 1) 44 [.ref 26, .int x1, .int x2, .int x3, .long x4, .null, .int x6] [.long s0] (mm_Λ, I, J) mc ms o σ' := by
  refine mm_lstore d106_44 (by decide +kernel) ?_
  refine mm_ii d106_46 ci1 rfl (by decide +kernel) ?_
  refine mm_goto (tgt := 6) d106_49 (by decide) ?_
  exact hr
theorem b106_52 {l : Launch} {X : Nat × (Nat → Int32)} {d : Nat} {I : Nat → Nat → Int32} {J : Nat → Nat → Int64} {x1 : Int32} {x2 : Int32} {x3 : Int32} {x4 : Int64} {x6 : Int32} {mc ms : Nat}  : mm_Run l X 106 (d + 1) 52 [.ref 26, .int x1, .int x2, .int x3, .long x4, .null, .int x6] [] (mm_Λ, I, J) mc ms (.inl (some (.long x4))) (mm_Λ, I, J) := by
  refine mm_lload d106_52 rfl ?_
  exact mm_lreturn d106_54 rfl
theorem b107_0 {l : Launch} {X : Nat × (Nat → Int32)} {d : Nat} {I : Nat → Nat → Int32} {J : Nat → Nat → Int64} {x1 : Int32} {x2 : Int32} {x3 : Int32} {mc ms : Nat} (i14 : vp_in (((12 * x1) + (3 * x2)) + x3) 72) : mm_Run l X 107 d 0 [.ref 26, .int x1, .int x2, .int x3] [] (mm_Λ, I, J) mc ms (.inl (some (.int (I 29 (((12 * x1) + (3 * x2)) + x3).toNatClampNeg)))) (mm_Λ, I, J) := by
  refine mm_aload_n (v := .ref 26) d107_0 rfl (Or.inl ⟨_, rfl⟩) ?_
  refine mm_getfield (v := .ref 29) d107_1 okc9 fk107_16 rfl rfl (by nofun) ?_
  refine mm_bi d107_4 cb12 ?_
  refine mm_iload_n d107_6 rfl ?_
  refine mm_imul d107_7 ?_
  refine mm_ic d107_8 ci3 ?_
  refine mm_iload_n d107_9 rfl ?_
  refine mm_imul d107_10 ?_
  refine mm_iadd d107_11 ?_
  refine mm_iload_n d107_12 rfl ?_
  refine mm_iadd d107_13 ?_
  refine mm_iaload d107_14 rfl i14 ?_
  exact mm_ireturn d107_15 rfl
theorem b108_0 {l : Launch} {X : Nat × (Nat → Int32)} {d : Nat} {I : Nat → Nat → Int32} {J : Nat → Nat → Int64} {x0 : Int64} {x2 : Int64} {mc ms : Nat} {o : mm_O} {σ' : mm_S} (kt : (lg_cmp x0 0) = 0 → mm_Run l X 108 d 12 [.long x0, .null, .long x2, .null] [] (mm_Λ, I, J) mc ms o σ') (kf : ¬ ((lg_cmp x0 0) = 0) → mm_Run l X 108 d 6 [.long x0, .null, .long x2, .null] [] (mm_Λ, I, J) mc ms o σ') : mm_Run l X 108 d 0 [.long x0, .null, .long x2, .null] [] (mm_Λ, I, J) mc ms o σ' := by
  refine mm_lload_n d108_0 rfl ?_
  refine mm_lc d108_1 lc0 ?_
  refine mm_lcmp d108_2 ?_
  refine mm_if (tgt := 12) d108_3 (by decide) (fun h => ?_) (fun h => ?_)
  · exact kt h
  · exact kf h
theorem b108_6 {l : Launch} {X : Nat × (Nat → Int32)} {d : Nat} {I : Nat → Nat → Int32} {J : Nat → Nat → Int64} {x0 : Int64} {x2 : Int64} {mc ms : Nat} {o : mm_O} {σ' : mm_S} (kt : ¬ (lg_cmp x2 0) = 0 → mm_Run l X 108 d 14 [.long x0, .null, .long x2, .null] [] (mm_Λ, I, J) mc ms o σ') (kf : ¬ (¬ (lg_cmp x2 0) = 0) → mm_Run l X 108 d 12 [.long x0, .null, .long x2, .null] [] (mm_Λ, I, J) mc ms o σ') : mm_Run l X 108 d 6 [.long x0, .null, .long x2, .null] [] (mm_Λ, I, J) mc ms o σ' := by
  refine mm_lload_n d108_6 rfl ?_
  refine mm_lc d108_7 lc0 ?_
  refine mm_lcmp d108_8 ?_
  refine mm_if (tgt := 14) d108_9 (by decide) (fun h => ?_) (fun h => ?_)
  · exact kt h
  · exact kf h
theorem b108_12 {l : Launch} {X : Nat × (Nat → Int32)} {d : Nat} {I : Nat → Nat → Int32} {J : Nat → Nat → Int64} {x0 : Int64} {x2 : Int64} {mc ms : Nat}  : mm_Run l X 108 d 12 [.long x0, .null, .long x2, .null] [] (mm_Λ, I, J) mc ms (.inl (some (.long 0))) (mm_Λ, I, J) := by
  refine mm_lc d108_12 lc0 ?_
  exact mm_lreturn d108_13 rfl
theorem b108_14 {l : Launch} {X : Nat × (Nat → Int32)} {d : Nat} {I : Nat → Nat → Int32} {J : Nat → Nat → Int64} {x0 : Int64} {x2 : Int64} {mc ms : Nat} {o : mm_O} {σ' : mm_S} (n19 : ¬ x2 = 0) (kt : (lg_cmp x0 (1000000000000000 / x2)) ≤ 0 → mm_Run l X 108 d 30 [.long x0, .null, .long x2, .null] [] (mm_Λ, I, J) mc ms o σ') (kf : ¬ ((lg_cmp x0 (1000000000000000 / x2)) ≤ 0) → mm_Run l X 108 d 24 [.long x0, .null, .long x2, .null] [] (mm_Λ, I, J) mc ms o σ') : mm_Run l X 108 d 14 [.long x0, .null, .long x2, .null] [] (mm_Λ, I, J) mc ms o σ' := by
  refine mm_lload_n d108_14 rfl ?_
  refine mm_ldc2 d108_15 kl108_73 ?_
  refine mm_lload_n d108_18 rfl ?_
  refine mm_ldiv d108_19 n19 ?_
  refine mm_lcmp d108_20 ?_
  refine mm_if (tgt := 30) d108_21 (by decide) (fun h => ?_) (fun h => ?_)
  · exact kt h
  · exact kf h
theorem b108_24 {l : Launch} {X : Nat × (Nat → Int32)} {d : Nat} {I : Nat → Nat → Int32} {J : Nat → Nat → Int64} {x0 : Int64} {x2 : Int64} {mc ms : Nat} {o : mm_O} {σ' : mm_S} (hr : mm_Run l X 108 d 33 [.long x0, .null, .long x2, .null] [.long 1000000000000000] (mm_Λ, I, J) mc ms o σ') : mm_Run l X 108 d 24 [.long x0, .null, .long x2, .null] [] (mm_Λ, I, J) mc ms o σ' := by
  refine mm_ldc2 d108_24 kl108_73 ?_
  refine mm_goto (tgt := 33) d108_27 (by decide) ?_
  exact hr
theorem b108_30 {l : Launch} {X : Nat × (Nat → Int32)} {d : Nat} {I : Nat → Nat → Int32} {J : Nat → Nat → Int64} {x0 : Int64} {x2 : Int64} {mc ms : Nat} {o : mm_O} {σ' : mm_S} (hr : mm_Run l X 108 d 33 [.long x0, .null, .long x2, .null] [.long (x0 * x2)] (mm_Λ, I, J) mc ms o σ') : mm_Run l X 108 d 30 [.long x0, .null, .long x2, .null] [] (mm_Λ, I, J) mc ms o σ' := by
  refine mm_lload_n d108_30 rfl ?_
  refine mm_lload_n d108_31 rfl ?_
  refine mm_lmul d108_32 ?_
  exact hr
theorem b108_33 {l : Launch} {X : Nat × (Nat → Int32)} {d : Nat} {I : Nat → Nat → Int32} {J : Nat → Nat → Int64} {x0 : Int64} {x2 : Int64} {s0 : Int64} {mc ms : Nat}  : mm_Run l X 108 d 33 [.long x0, .null, .long x2, .null] [.long s0] (mm_Λ, I, J) mc ms (.inl (some (.long s0))) (mm_Λ, I, J) := by
  exact mm_lreturn d108_33 rfl
theorem b109_0 {l : Launch} {X : Nat × (Nat → Int32)} {d : Nat} {I : Nat → Nat → Int32} {J : Nat → Nat → Int64} {x0 : Int64} {x2 : Int64} {mc ms : Nat} {o : mm_O} {σ' : mm_S} (kt : (lg_cmp (x0 + x2) 1000000000000000) ≤ 0 → mm_Run l X 109 d 16 [.long x0, .null, .long x2, .null] [] (mm_Λ, I, J) mc ms o σ') (kf : ¬ ((lg_cmp (x0 + x2) 1000000000000000) ≤ 0) → mm_Run l X 109 d 10 [.long x0, .null, .long x2, .null] [] (mm_Λ, I, J) mc ms o σ') : mm_Run l X 109 d 0 [.long x0, .null, .long x2, .null] [] (mm_Λ, I, J) mc ms o σ' := by
  refine mm_lload_n d109_0 rfl ?_
  refine mm_lload_n d109_1 rfl ?_
  refine mm_ladd d109_2 ?_
  refine mm_ldc2 d109_3 kl109_73 ?_
  refine mm_lcmp d109_6 ?_
  refine mm_if (tgt := 16) d109_7 (by decide) (fun h => ?_) (fun h => ?_)
  · exact kt h
  · exact kf h
theorem b109_10 {l : Launch} {X : Nat × (Nat → Int32)} {d : Nat} {I : Nat → Nat → Int32} {J : Nat → Nat → Int64} {x0 : Int64} {x2 : Int64} {mc ms : Nat} {o : mm_O} {σ' : mm_S} (hr : mm_Run l X 109 d 19 [.long x0, .null, .long x2, .null] [.long 1000000000000000] (mm_Λ, I, J) mc ms o σ') : mm_Run l X 109 d 10 [.long x0, .null, .long x2, .null] [] (mm_Λ, I, J) mc ms o σ' := by
  refine mm_ldc2 d109_10 kl109_73 ?_
  refine mm_goto (tgt := 19) d109_13 (by decide) ?_
  exact hr
theorem b109_16 {l : Launch} {X : Nat × (Nat → Int32)} {d : Nat} {I : Nat → Nat → Int32} {J : Nat → Nat → Int64} {x0 : Int64} {x2 : Int64} {mc ms : Nat} {o : mm_O} {σ' : mm_S} (hr : mm_Run l X 109 d 19 [.long x0, .null, .long x2, .null] [.long (x0 + x2)] (mm_Λ, I, J) mc ms o σ') : mm_Run l X 109 d 16 [.long x0, .null, .long x2, .null] [] (mm_Λ, I, J) mc ms o σ' := by
  refine mm_lload_n d109_16 rfl ?_
  refine mm_lload_n d109_17 rfl ?_
  refine mm_ladd d109_18 ?_
  exact hr
theorem b109_19 {l : Launch} {X : Nat × (Nat → Int32)} {d : Nat} {I : Nat → Nat → Int32} {J : Nat → Nat → Int64} {x0 : Int64} {x2 : Int64} {s0 : Int64} {mc ms : Nat}  : mm_Run l X 109 d 19 [.long x0, .null, .long x2, .null] [.long s0] (mm_Λ, I, J) mc ms (.inl (some (.long s0))) (mm_Λ, I, J) := by
  exact mm_lreturn d109_19 rfl
theorem b110_0 {l : Launch} {X : Nat × (Nat → Int32)} {d : Nat} {I : Nat → Nat → Int32} {J : Nat → Nat → Int64} {x1 : Int32} {x2 : Int32} {mc ms : Nat} {o : mm_O} {σ' : mm_S} {r : Int32} {I1 : Nat → Nat → Int32} {J1 : Nat → Nat → Int64} (hcall : mm_Call l X 111 d [.int x1, .int x2] (mm_Λ, I, J) 0 0 (.inl (some (.int r))) (mm_Λ, I1, J1)) (hr : mm_Run l X 110 (d + 1) 6 [.ref 26, .int x1, .int x2] [.int r, .ref 26] (mm_Λ, I1, J1) mc ms o σ') : mm_Run l X 110 (d + 1) 0 [.ref 26, .int x1, .int x2] [] (mm_Λ, I, J) mc ms o σ' := by
  refine mm_aload_n (v := .ref 26) d110_0 rfl (Or.inl ⟨_, rfl⟩) ?_
  refine mm_iload_n d110_1 rfl ?_
  refine mm_iload_n d110_2 rfl ?_
  exact mm_callS0 (as := [.int x1, .int x2]) (S := [.ref 26]) d110_3 okm111 ln110_108 st111 rfl rfl (Nat.le_of_ble_eq_true rfl) (Nat.le_of_ble_eq_true rfl) hcall hr
theorem b110_6 {l : Launch} {X : Nat × (Nat → Int32)} {d : Nat} {I : Nat → Nat → Int32} {J : Nat → Nat → Int64} {x1 : Int32} {x2 : Int32} {s0 : Int32} {mc ms : Nat} {o : mm_O} {σ' : mm_S} (kt : ((mm_set I 26 0 s0) 26 0) ≤ 0 → mm_Run l X 110 (d + 1) 18 [.ref 26, .int x1, .int x2] [] (mm_Λ, (mm_set I 26 0 s0), J) mc ms o σ') (kf : ¬ (((mm_set I 26 0 s0) 26 0) ≤ 0) → mm_Run l X 110 (d + 1) 16 [.ref 26, .int x1, .int x2] [] (mm_Λ, (mm_set I 26 0 s0), J) mc ms o σ') : mm_Run l X 110 (d + 1) 6 [.ref 26, .int x1, .int x2] [.int s0, .ref 26] (mm_Λ, I, J) mc ms o σ' := by
  refine mm_putfield d110_6 okc9 fk110_65 fp110_65 rfl rfl rfl ?_
  refine mm_aload_n (v := .ref 26) d110_9 rfl (Or.inl ⟨_, rfl⟩) ?_
  refine mm_getfield (v := .int ((mm_set I 26 0 s0) 26 0)) d110_10 okc9 fk110_65 rfl rfl (by nofun) ?_
  refine mm_if (tgt := 18) d110_13 (by decide) (fun h => ?_) (fun h => ?_)
  · exact kt h
  · exact kf h
theorem b110_16 {l : Launch} {X : Nat × (Nat → Int32)} {d : Nat} {I : Nat → Nat → Int32} {J : Nat → Nat → Int64} {x1 : Int32} {x2 : Int32} {mc ms : Nat}  : mm_Run l X 110 (d + 1) 16 [.ref 26, .int x1, .int x2] [] (mm_Λ, I, J) mc ms (.inl (some (.long 0))) (mm_Λ, I, J) := by
  refine mm_lc d110_16 lc0 ?_
  exact mm_lreturn d110_17 rfl
theorem b110_18 {l : Launch} {X : Nat × (Nat → Int32)} {d : Nat} {I : Nat → Nat → Int32} {J : Nat → Nat → Int64} {x1 : Int32} {x2 : Int32} {mc ms : Nat} {o : mm_O} {σ' : mm_S} {I1 : Nat → Nat → Int32} {J1 : Nat → Nat → Int64} (hcall : mm_Call l X 112 d [.ref 26] (mm_Λ, I, J) 0 0 (.inl none) (mm_Λ, I1, J1)) (hr : mm_Run l X 110 (d + 1) 22 [.ref 26, .int x1, .int x2] [] (mm_Λ, I1, J1) mc ms o σ') : mm_Run l X 110 (d + 1) 18 [.ref 26, .int x1, .int x2] [] (mm_Λ, I, J) mc ms o σ' := by
  refine mm_aload_n (v := .ref 26) d110_18 rfl (Or.inl ⟨_, rfl⟩) ?_
  exact mm_callV0 (as := []) (S := []) d110_19 okm112 ln110_111 im112 se112 rfl ⟨_, _, rfl⟩ rfl rfl (Nat.le_of_ble_eq_true rfl) (Nat.le_of_ble_eq_true rfl) hcall hr
theorem b110_22 {l : Launch} {X : Nat × (Nat → Int32)} {d : Nat} {I : Nat → Nat → Int32} {J : Nat → Nat → Int64} {x1 : Int32} {x2 : Int32} {mc ms : Nat} (i32 : vp_in ((13 * x1) + x2) 78) : mm_Run l X 110 (d + 1) 22 [.ref 26, .int x1, .int x2] [] (mm_Λ, I, J) mc ms (.inl (some (.long (J 31 ((13 * x1) + x2).toNatClampNeg)))) (mm_Λ, I, J) := by
  refine mm_aload_n (v := .ref 26) d110_22 rfl (Or.inl ⟨_, rfl⟩) ?_
  refine mm_getfield (v := .ref 31) d110_23 okc9 fk110_23 rfl rfl (by nofun) ?_
  refine mm_bi d110_26 cb13 ?_
  refine mm_iload_n d110_28 rfl ?_
  refine mm_imul d110_29 ?_
  refine mm_iload_n d110_30 rfl ?_
  refine mm_iadd d110_31 ?_
  refine mm_laload d110_32 rfl i32 ?_
  exact mm_lreturn d110_33 rfl
theorem b111_0 {l : Launch} {X : Nat × (Nat → Int32)} {d : Nat} {I : Nat → Nat → Int32} {J : Nat → Nat → Int64} {x0 : Int32} {x1 : Int32} {mc ms : Nat} {o : mm_O} {σ' : mm_S} {r : Int32} {I1 : Nat → Nat → Int32} {J1 : Nat → Nat → Int64} (hcall : mm_Call l X 102 d [.int x0] (mm_Λ, I, J) 0 0 (.inl (some (.int r))) (mm_Λ, I1, J1)) (hr : mm_Run l X 111 (d + 1) 4 [.int x0, .int x1] [.int r] (mm_Λ, I1, J1) mc ms o σ') : mm_Run l X 111 (d + 1) 0 [.int x0, .int x1] [] (mm_Λ, I, J) mc ms o σ' := by
  refine mm_iload_n d111_0 rfl ?_
  exact mm_callS0 (as := [.int x0]) (S := []) d111_1 okm102 ln111_69 st102 rfl rfl (Nat.le_of_ble_eq_true rfl) (Nat.le_of_ble_eq_true rfl) hcall hr
theorem b111_4 {l : Launch} {X : Nat × (Nat → Int32)} {d : Nat} {I : Nat → Nat → Int32} {J : Nat → Nat → Int64} {x0 : Int32} {x1 : Int32} {s0 : Int32} {mc ms : Nat} {o : mm_O} {σ' : mm_S} (kt : ¬ s0 = 0 → mm_Run l X 111 (d + 1) 11 [.int x0, .int x1] [] (mm_Λ, I, J) mc ms o σ') (kf : ¬ (¬ s0 = 0) → mm_Run l X 111 (d + 1) 7 [.int x0, .int x1] [] (mm_Λ, I, J) mc ms o σ') : mm_Run l X 111 (d + 1) 4 [.int x0, .int x1] [.int s0] (mm_Λ, I, J) mc ms o σ' := by
  refine mm_if (tgt := 11) d111_4 (by decide) (fun h => ?_) (fun h => ?_)
  · exact kt h
  · exact kf h
theorem b111_7 {l : Launch} {X : Nat × (Nat → Int32)} {d : Nat} {I : Nat → Nat → Int32} {J : Nat → Nat → Int64} {x0 : Int32} {x1 : Int32} {mc ms : Nat} {o : mm_O} {σ' : mm_S} (hr : mm_Run l X 111 (d + 1) 27 [.int x0, .int x1] [.int 1] (mm_Λ, I, J) mc ms o σ') : mm_Run l X 111 (d + 1) 7 [.int x0, .int x1] [] (mm_Λ, I, J) mc ms o σ' := by
  refine mm_ic d111_7 ci1 ?_
  refine mm_goto (tgt := 27) d111_8 (by decide) ?_
  exact hr
theorem b111_11 {l : Launch} {X : Nat × (Nat → Int32)} {d : Nat} {I : Nat → Nat → Int32} {J : Nat → Nat → Int64} {x0 : Int32} {x1 : Int32} {mc ms : Nat} {o : mm_O} {σ' : mm_S} (kt : x1 < 1 → mm_Run l X 111 (d + 1) 22 [.int x0, .int x1] [] (mm_Λ, I, J) mc ms o σ') (kf : ¬ (x1 < 1) → mm_Run l X 111 (d + 1) 16 [.int x0, .int x1] [] (mm_Λ, I, J) mc ms o σ') : mm_Run l X 111 (d + 1) 11 [.int x0, .int x1] [] (mm_Λ, I, J) mc ms o σ' := by
  refine mm_iload_n d111_11 rfl ?_
  refine mm_ic d111_12 ci1 ?_
  refine mm_icmp (tgt := 22) d111_13 (by decide) (fun h => ?_) (fun h => ?_)
  · exact kt h
  · exact kf h
theorem b111_16 {l : Launch} {X : Nat × (Nat → Int32)} {d : Nat} {I : Nat → Nat → Int32} {J : Nat → Nat → Int64} {x0 : Int32} {x1 : Int32} {mc ms : Nat} {o : mm_O} {σ' : mm_S} (kt : x1 ≤ 12 → mm_Run l X 111 (d + 1) 26 [.int x0, .int x1] [] (mm_Λ, I, J) mc ms o σ') (kf : ¬ (x1 ≤ 12) → mm_Run l X 111 (d + 1) 22 [.int x0, .int x1] [] (mm_Λ, I, J) mc ms o σ') : mm_Run l X 111 (d + 1) 16 [.int x0, .int x1] [] (mm_Λ, I, J) mc ms o σ' := by
  refine mm_iload_n d111_16 rfl ?_
  refine mm_bi d111_17 cb12 ?_
  refine mm_icmp (tgt := 26) d111_19 (by decide) (fun h => ?_) (fun h => ?_)
  · exact kt h
  · exact kf h
theorem b111_22 {l : Launch} {X : Nat × (Nat → Int32)} {d : Nat} {I : Nat → Nat → Int32} {J : Nat → Nat → Int64} {x0 : Int32} {x1 : Int32} {mc ms : Nat} {o : mm_O} {σ' : mm_S} (hr : mm_Run l X 111 (d + 1) 27 [.int x0, .int x1] [.int 2] (mm_Λ, I, J) mc ms o σ') : mm_Run l X 111 (d + 1) 22 [.int x0, .int x1] [] (mm_Λ, I, J) mc ms o σ' := by
  refine mm_ic d111_22 ci2 ?_
  refine mm_goto (tgt := 27) d111_23 (by decide) ?_
  exact hr
theorem b111_26 {l : Launch} {X : Nat × (Nat → Int32)} {d : Nat} {I : Nat → Nat → Int32} {J : Nat → Nat → Int64} {x0 : Int32} {x1 : Int32} {mc ms : Nat} {o : mm_O} {σ' : mm_S} (hr : mm_Run l X 111 (d + 1) 27 [.int x0, .int x1] [.int 0] (mm_Λ, I, J) mc ms o σ') : mm_Run l X 111 (d + 1) 26 [.int x0, .int x1] [] (mm_Λ, I, J) mc ms o σ' := by
  refine mm_ic d111_26 ci0 ?_
  exact hr
theorem b111_27 {l : Launch} {X : Nat × (Nat → Int32)} {d : Nat} {I : Nat → Nat → Int32} {J : Nat → Nat → Int64} {x0 : Int32} {x1 : Int32} {s0 : Int32} {mc ms : Nat}  : mm_Run l X 111 (d + 1) 27 [.int x0, .int x1] [.int s0] (mm_Λ, I, J) mc ms (.inl (some (.int s0))) (mm_Λ, I, J) := by
  exact mm_ireturn d111_27 rfl
theorem b112_0 {l : Launch} {X : Nat × (Nat → Int32)} {d : Nat} {I : Nat → Nat → Int32} {J : Nat → Nat → Int64}  {mc ms : Nat} {o : mm_O} {σ' : mm_S} (hr : mm_Run l X 112 (d + 1) 2 [.ref 26, .int 1, .null, .null, .null, .null] [] (mm_Λ, I, J) mc ms o σ') : mm_Run l X 112 (d + 1) 0 [.ref 26, .null, .null, .null, .null, .null] [] (mm_Λ, I, J) mc ms o σ' := by
  refine mm_ic d112_0 ci1 ?_
  refine mm_istore_n d112_1 (by decide +kernel) ?_
  exact hr
theorem b112_2 {l : Launch} {X : Nat × (Nat → Int32)} {d : Nat} {I : Nat → Nat → Int32} {J : Nat → Nat → Int64} {x1 : Int32} {mc ms : Nat} {o : mm_O} {σ' : mm_S} (kt : 13 ≤ x1 → mm_Run l X 112 (d + 1) 73 [.ref 26, .int x1, .null, .null, .null, .null] [] (mm_Λ, I, J) mc ms o σ') (kf : ¬ (13 ≤ x1) → mm_Run l X 112 (d + 1) 8 [.ref 26, .int x1, .null, .null, .null, .null] [] (mm_Λ, I, J) mc ms o σ') : mm_Run l X 112 (d + 1) 2 [.ref 26, .int x1, .null, .null, .null, .null] [] (mm_Λ, I, J) mc ms o σ' := by
  refine mm_iload_n d112_2 rfl ?_
  refine mm_bi d112_3 cb13 ?_
  refine mm_icmp (tgt := 73) d112_5 (by decide) (fun h => ?_) (fun h => ?_)
  · exact kt h
  · exact kf h
theorem b112_8 {l : Launch} {X : Nat × (Nat → Int32)} {d : Nat} {I : Nat → Nat → Int32} {J : Nat → Nat → Int64} {x1 : Int32} {mc ms : Nat} {o : mm_O} {σ' : mm_S} (hr : mm_Run l X 112 (d + 1) 10 [.ref 26, .int x1, .int 0, .null, .null, .null] [] (mm_Λ, I, J) mc ms o σ') : mm_Run l X 112 (d + 1) 8 [.ref 26, .int x1, .null, .null, .null, .null] [] (mm_Λ, I, J) mc ms o σ' := by
  refine mm_ic d112_8 ci0 ?_
  refine mm_istore_n d112_9 (by decide +kernel) ?_
  exact hr
theorem b112_10 {l : Launch} {X : Nat × (Nat → Int32)} {d : Nat} {I : Nat → Nat → Int32} {J : Nat → Nat → Int64} {x1 : Int32} {x2 : Int32} {mc ms : Nat} {o : mm_O} {σ' : mm_S} (kt : 6 ≤ x2 → mm_Run l X 112 (d + 1) 67 [.ref 26, .int x1, .int x2, .null, .null, .null] [] (mm_Λ, I, J) mc ms o σ') (kf : ¬ (6 ≤ x2) → mm_Run l X 112 (d + 1) 16 [.ref 26, .int x1, .int x2, .null, .null, .null] [] (mm_Λ, I, J) mc ms o σ') : mm_Run l X 112 (d + 1) 10 [.ref 26, .int x1, .int x2, .null, .null, .null] [] (mm_Λ, I, J) mc ms o σ' := by
  refine mm_iload_n d112_10 rfl ?_
  refine mm_bi d112_11 cb6 ?_
  refine mm_icmp (tgt := 67) d112_13 (by decide) (fun h => ?_) (fun h => ?_)
  · exact kt h
  · exact kf h
theorem b112_16 {l : Launch} {X : Nat × (Nat → Int32)} {d : Nat} {I : Nat → Nat → Int32} {J : Nat → Nat → Int64} {x1 : Int32} {x2 : Int32} {mc ms : Nat} {o : mm_O} {σ' : mm_S} (hr : mm_Run l X 112 (d + 1) 21 [.ref 26, .int x1, .int x2, .long 0, .null, .int 0] [] (mm_Λ, I, J) mc ms o σ') : mm_Run l X 112 (d + 1) 16 [.ref 26, .int x1, .int x2, .null, .null, .null] [] (mm_Λ, I, J) mc ms o σ' := by
  refine mm_lc d112_16 lc0 ?_
  refine mm_lstore_n d112_17 (by decide +kernel) ?_
  refine mm_ic d112_18 ci0 ?_
  refine mm_istore d112_19 (by decide +kernel) ?_
  exact hr
theorem b112_21 {l : Launch} {X : Nat × (Nat → Int32)} {d : Nat} {I : Nat → Nat → Int32} {J : Nat → Nat → Int64} {x1 : Int32} {x2 : Int32} {x3 : Int64} {x5 : Int32} {mc ms : Nat} {o : mm_O} {σ' : mm_S} (i28 : vp_in x2 6) (kt : (I 27 x2.toNatClampNeg) ≤ x5 → mm_Run l X 112 (d + 1) 49 [.ref 26, .int x1, .int x2, .long x3, .null, .int x5] [] (mm_Λ, I, J) mc ms o σ') (kf : ¬ ((I 27 x2.toNatClampNeg) ≤ x5) → mm_Run l X 112 (d + 1) 32 [.ref 26, .int x1, .int x2, .long x3, .null, .int x5] [] (mm_Λ, I, J) mc ms o σ') : mm_Run l X 112 (d + 1) 21 [.ref 26, .int x1, .int x2, .long x3, .null, .int x5] [] (mm_Λ, I, J) mc ms o σ' := by
  refine mm_iload d112_21 rfl ?_
  refine mm_aload_n (v := .ref 26) d112_23 rfl (Or.inl ⟨_, rfl⟩) ?_
  refine mm_getfield (v := .ref 27) d112_24 okc9 fk112_7 rfl rfl (by nofun) ?_
  refine mm_iload_n d112_27 rfl ?_
  refine mm_iaload d112_28 rfl i28 ?_
  refine mm_icmp (tgt := 49) d112_29 (by decide) (fun h => ?_) (fun h => ?_)
  · exact kt h
  · exact kf h
theorem b112_32 {l : Launch} {X : Nat × (Nat → Int32)} {d : Nat} {I : Nat → Nat → Int32} {J : Nat → Nat → Int64} {x1 : Int32} {x2 : Int32} {x3 : Int64} {x5 : Int32} {mc ms : Nat} {o : mm_O} {σ' : mm_S} {r : Int64} {I1 : Nat → Nat → Int32} {J1 : Nat → Nat → Int64} (hcall : mm_Call l X 113 d [.ref 26, .int x2, .int x5, .int x1] (mm_Λ, I, J) 0 0 (.inl (some (.long r))) (mm_Λ, I1, J1)) (hr : mm_Run l X 112 (d + 1) 41 [.ref 26, .int x1, .int x2, .long x3, .null, .int x5] [.long r, .long x3] (mm_Λ, I1, J1) mc ms o σ') : mm_Run l X 112 (d + 1) 32 [.ref 26, .int x1, .int x2, .long x3, .null, .int x5] [] (mm_Λ, I, J) mc ms o σ' := by
  refine mm_lload_n d112_32 rfl ?_
  refine mm_aload_n (v := .ref 26) d112_33 rfl (Or.inl ⟨_, rfl⟩) ?_
  refine mm_iload_n d112_34 rfl ?_
  refine mm_iload d112_35 rfl ?_
  refine mm_iload_n d112_37 rfl ?_
  exact mm_callV0 (as := [.int x2, .int x5, .int x1]) (S := [.long x3]) d112_38 okm113 ln112_98 im113 se113 rfl ⟨_, _, rfl⟩ rfl rfl (Nat.le_of_ble_eq_true rfl) (Nat.le_of_ble_eq_true rfl) hcall hr
theorem b112_41 {l : Launch} {X : Nat × (Nat → Int32)} {d : Nat} {I : Nat → Nat → Int32} {J : Nat → Nat → Int64} {x1 : Int32} {x2 : Int32} {x3 : Int64} {x5 : Int32} {s0 : Int64} {s1 : Int64} {mc ms : Nat} {o : mm_O} {σ' : mm_S} (hr : mm_Run l X 112 (d + 1) 21 [.ref 26, .int x1, .int x2, .long (s1 + s0), .null, .int (x5 + 1)] [] (mm_Λ, I, J) mc ms o σ') : mm_Run l X 112 (d + 1) 41 [.ref 26, .int x1, .int x2, .long x3, .null, .int x5] [.long s0, .long s1] (mm_Λ, I, J) mc ms o σ' := by
  refine mm_ladd d112_41 ?_
  refine mm_lstore_n d112_42 (by decide +kernel) ?_
  refine mm_ii d112_43 ci1 rfl (by decide +kernel) ?_
  refine mm_goto (tgt := 21) d112_46 (by decide) ?_
  exact hr
theorem b112_49 {l : Launch} {X : Nat × (Nat → Int32)} {d : Nat} {I : Nat → Nat → Int32} {J : Nat → Nat → Int64} {x1 : Int32} {x2 : Int32} {x3 : Int64} {x5 : Int32} {mc ms : Nat} {o : mm_O} {σ' : mm_S} (i60 : vp_in ((13 * x2) + x1) 78) (hr : mm_Run l X 112 (d + 1) 10 [.ref 26, .int x1, .int (x2 + 1), .null, .null, .null] [] (mm_Λ, I, (mm_set J 31 ((13 * x2) + x1).toNatClampNeg x3)) mc ms o σ') : mm_Run l X 112 (d + 1) 49 [.ref 26, .int x1, .int x2, .long x3, .null, .int x5] [] (mm_Λ, I, J) mc ms o σ' := by
  refine mm_aload_n (v := .ref 26) d112_49 rfl (Or.inl ⟨_, rfl⟩) ?_
  refine mm_getfield (v := .ref 31) d112_50 okc9 fk112_23 rfl rfl (by nofun) ?_
  refine mm_bi d112_53 cb13 ?_
  refine mm_iload_n d112_55 rfl ?_
  refine mm_imul d112_56 ?_
  refine mm_iload_n d112_57 rfl ?_
  refine mm_iadd d112_58 ?_
  refine mm_lload_n d112_59 rfl ?_
  refine mm_lastore d112_60 rfl i60 ?_
  refine mm_ii d112_61 ci1 rfl (by decide +kernel) ?_
  refine mm_goto (tgt := 10) d112_64 (by decide) ?_
  exact mm_forget hr (by exact ⟨rfl, rfl, rfl, trivial⟩)
theorem b112_67 {l : Launch} {X : Nat × (Nat → Int32)} {d : Nat} {I : Nat → Nat → Int32} {J : Nat → Nat → Int64} {x1 : Int32} {x2 : Int32} {mc ms : Nat} {o : mm_O} {σ' : mm_S} (hr : mm_Run l X 112 (d + 1) 2 [.ref 26, .int (x1 + 1), .null, .null, .null, .null] [] (mm_Λ, I, J) mc ms o σ') : mm_Run l X 112 (d + 1) 67 [.ref 26, .int x1, .int x2, .null, .null, .null] [] (mm_Λ, I, J) mc ms o σ' := by
  refine mm_ii d112_67 ci1 rfl (by decide +kernel) ?_
  refine mm_goto (tgt := 2) d112_70 (by decide) ?_
  exact mm_forget hr (by exact ⟨rfl, rfl, trivial⟩)
theorem b112_73 {l : Launch} {X : Nat × (Nat → Int32)} {d : Nat} {I : Nat → Nat → Int32} {J : Nat → Nat → Int64} {x1 : Int32} {mc ms : Nat}  : mm_Run l X 112 (d + 1) 73 [.ref 26, .int x1, .null, .null, .null, .null] [] (mm_Λ, I, J) mc ms (.inl none) (mm_Λ, I, J) := by
  exact mm_vreturn d112_73 rfl
theorem b113_0 {l : Launch} {X : Nat × (Nat → Int32)} {d : Nat} {I : Nat → Nat → Int32} {J : Nat → Nat → Int64} {x1 : Int32} {x2 : Int32} {x3 : Int32} {mc ms : Nat} {o : mm_O} {σ' : mm_S} (hr : mm_Run l X 113 (d + 1) 6 [.ref 26, .int x1, .int x2, .int x3, .long 0, .null, .int 0, .null] [] (mm_Λ, I, J) mc ms o σ') : mm_Run l X 113 (d + 1) 0 [.ref 26, .int x1, .int x2, .int x3, .null, .null, .null, .null] [] (mm_Λ, I, J) mc ms o σ' := by
  refine mm_lc d113_0 lc0 ?_
  refine mm_lstore d113_1 (by decide +kernel) ?_
  refine mm_ic d113_3 ci0 ?_
  refine mm_istore d113_4 (by decide +kernel) ?_
  exact hr
theorem b113_6 {l : Launch} {X : Nat × (Nat → Int32)} {d : Nat} {I : Nat → Nat → Int32} {J : Nat → Nat → Int64} {x1 : Int32} {x2 : Int32} {x3 : Int32} {x4 : Int64} {x6 : Int32} {mc ms : Nat} {o : mm_O} {σ' : mm_S} (kt : x3 ≤ x6 → mm_Run l X 113 (d + 1) 60 [.ref 26, .int x1, .int x2, .int x3, .long x4, .null, .int x6, .null] [] (mm_Λ, I, J) mc ms o σ') (kf : ¬ (x3 ≤ x6) → mm_Run l X 113 (d + 1) 12 [.ref 26, .int x1, .int x2, .int x3, .long x4, .null, .int x6, .null] [] (mm_Λ, I, J) mc ms o σ') : mm_Run l X 113 (d + 1) 6 [.ref 26, .int x1, .int x2, .int x3, .long x4, .null, .int x6, .null] [] (mm_Λ, I, J) mc ms o σ' := by
  refine mm_iload d113_6 rfl ?_
  refine mm_iload_n d113_8 rfl ?_
  refine mm_icmp (tgt := 60) d113_9 (by decide) (fun h => ?_) (fun h => ?_)
  · exact kt h
  · exact kf h
theorem b113_12 {l : Launch} {X : Nat × (Nat → Int32)} {d : Nat} {I : Nat → Nat → Int32} {J : Nat → Nat → Int64} {x1 : Int32} {x2 : Int32} {x3 : Int32} {x4 : Int64} {x6 : Int32} {mc ms : Nat} {o : mm_O} {σ' : mm_S} (hr : mm_Run l X 113 (d + 1) 15 [.ref 26, .int x1, .int x2, .int x3, .long x4, .null, .int x6, .int 0] [] (mm_Λ, I, J) mc ms o σ') : mm_Run l X 113 (d + 1) 12 [.ref 26, .int x1, .int x2, .int x3, .long x4, .null, .int x6, .null] [] (mm_Λ, I, J) mc ms o σ' := by
  refine mm_ic d113_12 ci0 ?_
  refine mm_istore d113_13 (by decide +kernel) ?_
  exact hr
theorem b113_15 {l : Launch} {X : Nat × (Nat → Int32)} {d : Nat} {I : Nat → Nat → Int32} {J : Nat → Nat → Int64} {x1 : Int32} {x2 : Int32} {x3 : Int32} {x4 : Int64} {x6 : Int32} {x7 : Int32} {mc ms : Nat} {o : mm_O} {σ' : mm_S} (kt : x3 ≤ (x6 + x7) → mm_Run l X 113 (d + 1) 54 [.ref 26, .int x1, .int x2, .int x3, .long x4, .null, .int x6, .int x7] [] (mm_Λ, I, J) mc ms o σ') (kf : ¬ (x3 ≤ (x6 + x7)) → mm_Run l X 113 (d + 1) 24 [.ref 26, .int x1, .int x2, .int x3, .long x4, .null, .int x6, .int x7] [] (mm_Λ, I, J) mc ms o σ') : mm_Run l X 113 (d + 1) 15 [.ref 26, .int x1, .int x2, .int x3, .long x4, .null, .int x6, .int x7] [] (mm_Λ, I, J) mc ms o σ' := by
  refine mm_iload d113_15 rfl ?_
  refine mm_iload d113_17 rfl ?_
  refine mm_iadd d113_19 ?_
  refine mm_iload_n d113_20 rfl ?_
  refine mm_icmp (tgt := 54) d113_21 (by decide) (fun h => ?_) (fun h => ?_)
  · exact kt h
  · exact kf h
theorem b113_24 {l : Launch} {X : Nat × (Nat → Int32)} {d : Nat} {I : Nat → Nat → Int32} {J : Nat → Nat → Int64} {x1 : Int32} {x2 : Int32} {x3 : Int32} {x4 : Int64} {x6 : Int32} {x7 : Int32} {mc ms : Nat} {o : mm_O} {σ' : mm_S} {r : Int64} {I1 : Nat → Nat → Int32} {J1 : Nat → Nat → Int64} (hcall : mm_Call l X 114 d [.ref 26, .int x1, .int x2, .int x6, .int x7, .int (((x3 - 1) - x6) - x7)] (mm_Λ, I, J) 0 0 (.inl (some (.long r))) (mm_Λ, I1, J1)) (hr : mm_Run l X 113 (d + 1) 45 [.ref 26, .int x1, .int x2, .int x3, .long x4, .null, .int x6, .int x7] [.long r, .long x4] (mm_Λ, I1, J1) mc ms o σ') : mm_Run l X 113 (d + 1) 24 [.ref 26, .int x1, .int x2, .int x3, .long x4, .null, .int x6, .int x7] [] (mm_Λ, I, J) mc ms o σ' := by
  refine mm_lload d113_24 rfl ?_
  refine mm_aload_n (v := .ref 26) d113_26 rfl (Or.inl ⟨_, rfl⟩) ?_
  refine mm_iload_n d113_27 rfl ?_
  refine mm_iload_n d113_28 rfl ?_
  refine mm_iload d113_29 rfl ?_
  refine mm_iload d113_31 rfl ?_
  refine mm_iload_n d113_33 rfl ?_
  refine mm_ic d113_34 ci1 ?_
  refine mm_isub d113_35 ?_
  refine mm_iload d113_36 rfl ?_
  refine mm_isub d113_38 ?_
  refine mm_iload d113_39 rfl ?_
  refine mm_isub d113_41 ?_
  exact mm_callV0 (as := [.int x1, .int x2, .int x6, .int x7, .int (((x3 - 1) - x6) - x7)]) (S := [.long x4]) d113_42 okm114 ln113_94 im114 se114 rfl ⟨_, _, rfl⟩ rfl rfl (Nat.le_of_ble_eq_true rfl) (Nat.le_of_ble_eq_true rfl) hcall hr
theorem b113_45 {l : Launch} {X : Nat × (Nat → Int32)} {d : Nat} {I : Nat → Nat → Int32} {J : Nat → Nat → Int64} {x1 : Int32} {x2 : Int32} {x3 : Int32} {x4 : Int64} {x6 : Int32} {x7 : Int32} {s0 : Int64} {s1 : Int64} {mc ms : Nat} {o : mm_O} {σ' : mm_S} (hr : mm_Run l X 113 (d + 1) 15 [.ref 26, .int x1, .int x2, .int x3, .long (s1 + s0), .null, .int x6, .int (x7 + 1)] [] (mm_Λ, I, J) mc ms o σ') : mm_Run l X 113 (d + 1) 45 [.ref 26, .int x1, .int x2, .int x3, .long x4, .null, .int x6, .int x7] [.long s0, .long s1] (mm_Λ, I, J) mc ms o σ' := by
  refine mm_ladd d113_45 ?_
  refine mm_lstore d113_46 (by decide +kernel) ?_
  refine mm_ii d113_48 ci1 rfl (by decide +kernel) ?_
  refine mm_goto (tgt := 15) d113_51 (by decide) ?_
  exact hr
theorem b113_54 {l : Launch} {X : Nat × (Nat → Int32)} {d : Nat} {I : Nat → Nat → Int32} {J : Nat → Nat → Int64} {x1 : Int32} {x2 : Int32} {x3 : Int32} {x4 : Int64} {x6 : Int32} {x7 : Int32} {mc ms : Nat} {o : mm_O} {σ' : mm_S} (hr : mm_Run l X 113 (d + 1) 6 [.ref 26, .int x1, .int x2, .int x3, .long x4, .null, .int (x6 + 1), .null] [] (mm_Λ, I, J) mc ms o σ') : mm_Run l X 113 (d + 1) 54 [.ref 26, .int x1, .int x2, .int x3, .long x4, .null, .int x6, .int x7] [] (mm_Λ, I, J) mc ms o σ' := by
  refine mm_ii d113_54 ci1 rfl (by decide +kernel) ?_
  refine mm_goto (tgt := 6) d113_57 (by decide) ?_
  exact mm_forget hr (by exact ⟨rfl, rfl, rfl, rfl, rfl, rfl, trivial⟩)
theorem b113_60 {l : Launch} {X : Nat × (Nat → Int32)} {d : Nat} {I : Nat → Nat → Int32} {J : Nat → Nat → Int64} {x1 : Int32} {x2 : Int32} {x3 : Int32} {x4 : Int64} {x6 : Int32} {mc ms : Nat}  : mm_Run l X 113 (d + 1) 60 [.ref 26, .int x1, .int x2, .int x3, .long x4, .null, .int x6, .null] [] (mm_Λ, I, J) mc ms (.inl (some (.long x4))) (mm_Λ, I, J) := by
  refine mm_lload d113_60 rfl ?_
  exact mm_lreturn d113_62 rfl
theorem b114_0 {l : Launch} {X : Nat × (Nat → Int32)} {d : Nat} {I : Nat → Nat → Int32} {J : Nat → Nat → Int64} {x1 : Int32} {x2 : Int32} {x3 : Int32} {x4 : Int32} {x5 : Int32} {mc ms : Nat} {o : mm_O} {σ' : mm_S} (i9 : vp_in ((4 * x1) + x2) 24) (kt : (I 28 ((4 * x1) + x2).toNatClampNeg) ≤ 0 → mm_Run l X 114 (d + 1) 32 [.ref 26, .int x1, .int x2, .int x3, .int x4, .int x5, .int (I 28 ((4 * x1) + x2).toNatClampNeg), .null, .null] [] (mm_Λ, I, J) mc ms o σ') (kf : ¬ ((I 28 ((4 * x1) + x2).toNatClampNeg) ≤ 0) → mm_Run l X 114 (d + 1) 17 [.ref 26, .int x1, .int x2, .int x3, .int x4, .int x5, .int (I 28 ((4 * x1) + x2).toNatClampNeg), .null, .null] [] (mm_Λ, I, J) mc ms o σ') : mm_Run l X 114 (d + 1) 0 [.ref 26, .int x1, .int x2, .int x3, .int x4, .int x5, .null, .null, .null] [] (mm_Λ, I, J) mc ms o σ' := by
  refine mm_aload_n (v := .ref 26) d114_0 rfl (Or.inl ⟨_, rfl⟩) ?_
  refine mm_getfield (v := .ref 28) d114_1 okc9 fk114_13 rfl rfl (by nofun) ?_
  refine mm_ic d114_4 ci4 ?_
  refine mm_iload_n d114_5 rfl ?_
  refine mm_imul d114_6 ?_
  refine mm_iload_n d114_7 rfl ?_
  refine mm_iadd d114_8 ?_
  refine mm_iaload d114_9 rfl i9 ?_
  refine mm_istore d114_10 (by decide +kernel) ?_
  refine mm_iload d114_12 rfl ?_
  refine mm_if (tgt := 32) d114_14 (by decide) (fun h => ?_) (fun h => ?_)
  · exact kt h
  · exact kf h
theorem b114_17 {l : Launch} {X : Nat × (Nat → Int32)} {d : Nat} {I : Nat → Nat → Int32} {J : Nat → Nat → Int64} {x1 : Int32} {x2 : Int32} {x3 : Int32} {x4 : Int32} {x5 : Int32} {x6 : Int32} {mc ms : Nat} {o : mm_O} {σ' : mm_S} {r : Int32} {I1 : Nat → Nat → Int32} {J1 : Nat → Nat → Int64} (hcall : mm_Call l X 107 d [.ref 26, .int x1, .int x2, .int 0] (mm_Λ, I, J) 0 0 (.inl (some (.int r))) (mm_Λ, I1, J1)) (hr : mm_Run l X 114 (d + 1) 25 [.ref 26, .int x1, .int x2, .int x3, .int x4, .int x5, .int x6, .null, .null] [.int r, .ref 26] (mm_Λ, I1, J1) mc ms o σ') : mm_Run l X 114 (d + 1) 17 [.ref 26, .int x1, .int x2, .int x3, .int x4, .int x5, .int x6, .null, .null] [] (mm_Λ, I, J) mc ms o σ' := by
  refine mm_aload_n (v := .ref 26) d114_17 rfl (Or.inl ⟨_, rfl⟩) ?_
  refine mm_aload_n (v := .ref 26) d114_18 rfl (Or.inl ⟨_, rfl⟩) ?_
  refine mm_iload_n d114_19 rfl ?_
  refine mm_iload_n d114_20 rfl ?_
  refine mm_ic d114_21 ci0 ?_
  exact mm_callV0 (as := [.int x1, .int x2, .int 0]) (S := [.ref 26]) d114_22 okm107 ln114_75 im107 se107 rfl ⟨_, _, rfl⟩ rfl rfl (Nat.le_of_ble_eq_true rfl) (Nat.le_of_ble_eq_true rfl) hcall hr
theorem b114_25 {l : Launch} {X : Nat × (Nat → Int32)} {d : Nat} {I : Nat → Nat → Int32} {J : Nat → Nat → Int64} {x1 : Int32} {x2 : Int32} {x3 : Int32} {x4 : Int32} {x5 : Int32} {x6 : Int32} {s0 : Int32} {mc ms : Nat} {o : mm_O} {σ' : mm_S} {r : Int64} {I1 : Nat → Nat → Int32} {J1 : Nat → Nat → Int64} (hcall : mm_Call l X 115 d [.ref 26, .int s0, .int x3] (mm_Λ, I, J) 0 0 (.inl (some (.long r))) (mm_Λ, I1, J1)) (hr : mm_Run l X 114 (d + 1) 29 [.ref 26, .int x1, .int x2, .int x3, .int x4, .int x5, .int x6, .null, .null] [.long r] (mm_Λ, I1, J1) mc ms o σ') : mm_Run l X 114 (d + 1) 25 [.ref 26, .int x1, .int x2, .int x3, .int x4, .int x5, .int x6, .null, .null] [.int s0, .ref 26] (mm_Λ, I, J) mc ms o σ' := by
  refine mm_iload_n d114_25 rfl ?_
  exact mm_callV0 (as := [.int s0, .int x3]) (S := []) d114_26 okm115 ln114_90 im115 se115 rfl ⟨_, _, rfl⟩ rfl rfl (Nat.le_of_ble_eq_true rfl) (Nat.le_of_ble_eq_true rfl) hcall hr
theorem b114_29 {l : Launch} {X : Nat × (Nat → Int32)} {d : Nat} {I : Nat → Nat → Int32} {J : Nat → Nat → Int64} {x1 : Int32} {x2 : Int32} {x3 : Int32} {x4 : Int32} {x5 : Int32} {x6 : Int32} {s0 : Int64} {mc ms : Nat} {o : mm_O} {σ' : mm_S} (hr : mm_Run l X 114 (d + 1) 41 [.ref 26, .int x1, .int x2, .int x3, .int x4, .int x5, .int x6, .null, .null] [.long s0] (mm_Λ, I, J) mc ms o σ') : mm_Run l X 114 (d + 1) 29 [.ref 26, .int x1, .int x2, .int x3, .int x4, .int x5, .int x6, .null, .null] [.long s0] (mm_Λ, I, J) mc ms o σ' := by
  refine mm_goto (tgt := 41) d114_29 (by decide) ?_
  exact hr
theorem b114_32 {l : Launch} {X : Nat × (Nat → Int32)} {d : Nat} {I : Nat → Nat → Int32} {J : Nat → Nat → Int64} {x1 : Int32} {x2 : Int32} {x3 : Int32} {x4 : Int32} {x5 : Int32} {x6 : Int32} {mc ms : Nat} {o : mm_O} {σ' : mm_S} (kt : ¬ x3 = 0 → mm_Run l X 114 (d + 1) 40 [.ref 26, .int x1, .int x2, .int x3, .int x4, .int x5, .int x6, .null, .null] [] (mm_Λ, I, J) mc ms o σ') (kf : ¬ (¬ x3 = 0) → mm_Run l X 114 (d + 1) 36 [.ref 26, .int x1, .int x2, .int x3, .int x4, .int x5, .int x6, .null, .null] [] (mm_Λ, I, J) mc ms o σ') : mm_Run l X 114 (d + 1) 32 [.ref 26, .int x1, .int x2, .int x3, .int x4, .int x5, .int x6, .null, .null] [] (mm_Λ, I, J) mc ms o σ' := by
  refine mm_iload_n d114_32 rfl ?_
  refine mm_if (tgt := 40) d114_33 (by decide) (fun h => ?_) (fun h => ?_)
  · exact kt h
  · exact kf h
theorem b114_36 {l : Launch} {X : Nat × (Nat → Int32)} {d : Nat} {I : Nat → Nat → Int32} {J : Nat → Nat → Int64} {x1 : Int32} {x2 : Int32} {x3 : Int32} {x4 : Int32} {x5 : Int32} {x6 : Int32} {mc ms : Nat} {o : mm_O} {σ' : mm_S} (hr : mm_Run l X 114 (d + 1) 41 [.ref 26, .int x1, .int x2, .int x3, .int x4, .int x5, .int x6, .null, .null] [.long 1] (mm_Λ, I, J) mc ms o σ') : mm_Run l X 114 (d + 1) 36 [.ref 26, .int x1, .int x2, .int x3, .int x4, .int x5, .int x6, .null, .null] [] (mm_Λ, I, J) mc ms o σ' := by
  refine mm_lc d114_36 lc1 ?_
  refine mm_goto (tgt := 41) d114_37 (by decide) ?_
  exact hr
theorem b114_40 {l : Launch} {X : Nat × (Nat → Int32)} {d : Nat} {I : Nat → Nat → Int32} {J : Nat → Nat → Int64} {x1 : Int32} {x2 : Int32} {x3 : Int32} {x4 : Int32} {x5 : Int32} {x6 : Int32} {mc ms : Nat} {o : mm_O} {σ' : mm_S} (hr : mm_Run l X 114 (d + 1) 41 [.ref 26, .int x1, .int x2, .int x3, .int x4, .int x5, .int x6, .null, .null] [.long 0] (mm_Λ, I, J) mc ms o σ') : mm_Run l X 114 (d + 1) 40 [.ref 26, .int x1, .int x2, .int x3, .int x4, .int x5, .int x6, .null, .null] [] (mm_Λ, I, J) mc ms o σ' := by
  refine mm_lc d114_40 lc0 ?_
  exact hr
theorem b114_41 {l : Launch} {X : Nat × (Nat → Int32)} {d : Nat} {I : Nat → Nat → Int32} {J : Nat → Nat → Int64} {x1 : Int32} {x2 : Int32} {x3 : Int32} {x4 : Int32} {x5 : Int32} {x6 : Int32} {s0 : Int64} {mc ms : Nat} {o : mm_O} {σ' : mm_S} (kt : x6 ≤ 1 → mm_Run l X 114 (d + 1) 68 [.ref 26, .int x1, .int x2, .int x3, .int x4, .int x5, .int x6, .long s0, .null] [] (mm_Λ, I, J) mc ms o σ') (kf : ¬ (x6 ≤ 1) → mm_Run l X 114 (d + 1) 49 [.ref 26, .int x1, .int x2, .int x3, .int x4, .int x5, .int x6, .long s0, .null] [] (mm_Λ, I, J) mc ms o σ') : mm_Run l X 114 (d + 1) 41 [.ref 26, .int x1, .int x2, .int x3, .int x4, .int x5, .int x6, .null, .null] [.long s0] (mm_Λ, I, J) mc ms o σ' := by
  refine mm_lstore d114_41 (by decide +kernel) ?_
  refine mm_iload d114_43 rfl ?_
  refine mm_ic d114_45 ci1 ?_
  refine mm_icmp (tgt := 68) d114_46 (by decide) (fun h => ?_) (fun h => ?_)
  · exact kt h
  · exact kf h
theorem b114_49 {l : Launch} {X : Nat × (Nat → Int32)} {d : Nat} {I : Nat → Nat → Int32} {J : Nat → Nat → Int64} {x1 : Int32} {x2 : Int32} {x3 : Int32} {x4 : Int32} {x5 : Int32} {x6 : Int32} {x7 : Int64} {mc ms : Nat} {o : mm_O} {σ' : mm_S} {r : Int32} {I1 : Nat → Nat → Int32} {J1 : Nat → Nat → Int64} (hcall : mm_Call l X 107 d [.ref 26, .int x1, .int x2, .int 1] (mm_Λ, I, J) 0 0 (.inl (some (.int r))) (mm_Λ, I1, J1)) (hr : mm_Run l X 114 (d + 1) 59 [.ref 26, .int x1, .int x2, .int x3, .int x4, .int x5, .int x6, .long x7, .null] [.int r, .ref 26, .long x7] (mm_Λ, I1, J1) mc ms o σ') : mm_Run l X 114 (d + 1) 49 [.ref 26, .int x1, .int x2, .int x3, .int x4, .int x5, .int x6, .long x7, .null] [] (mm_Λ, I, J) mc ms o σ' := by
  refine mm_lload d114_49 rfl ?_
  refine mm_aload_n (v := .ref 26) d114_51 rfl (Or.inl ⟨_, rfl⟩) ?_
  refine mm_aload_n (v := .ref 26) d114_52 rfl (Or.inl ⟨_, rfl⟩) ?_
  refine mm_iload_n d114_53 rfl ?_
  refine mm_iload_n d114_54 rfl ?_
  refine mm_ic d114_55 ci1 ?_
  exact mm_callV0 (as := [.int x1, .int x2, .int 1]) (S := [.ref 26, .long x7]) d114_56 okm107 ln114_75 im107 se107 rfl ⟨_, _, rfl⟩ rfl rfl (Nat.le_of_ble_eq_true rfl) (Nat.le_of_ble_eq_true rfl) hcall hr
theorem b114_59 {l : Launch} {X : Nat × (Nat → Int32)} {d : Nat} {I : Nat → Nat → Int32} {J : Nat → Nat → Int64} {x1 : Int32} {x2 : Int32} {x3 : Int32} {x4 : Int32} {x5 : Int32} {x6 : Int32} {x7 : Int64} {s0 : Int32} {s2 : Int64} {mc ms : Nat} {o : mm_O} {σ' : mm_S} {r : Int64} {I1 : Nat → Nat → Int32} {J1 : Nat → Nat → Int64} (hcall : mm_Call l X 115 d [.ref 26, .int s0, .int x4] (mm_Λ, I, J) 0 0 (.inl (some (.long r))) (mm_Λ, I1, J1)) (hr : mm_Run l X 114 (d + 1) 64 [.ref 26, .int x1, .int x2, .int x3, .int x4, .int x5, .int x6, .long x7, .null] [.long r, .long s2] (mm_Λ, I1, J1) mc ms o σ') : mm_Run l X 114 (d + 1) 59 [.ref 26, .int x1, .int x2, .int x3, .int x4, .int x5, .int x6, .long x7, .null] [.int s0, .ref 26, .long s2] (mm_Λ, I, J) mc ms o σ' := by
  refine mm_iload d114_59 rfl ?_
  exact mm_callV0 (as := [.int s0, .int x4]) (S := [.long s2]) d114_61 okm115 ln114_90 im115 se115 rfl ⟨_, _, rfl⟩ rfl rfl (Nat.le_of_ble_eq_true rfl) (Nat.le_of_ble_eq_true rfl) hcall hr
theorem b114_64 {l : Launch} {X : Nat × (Nat → Int32)} {d : Nat} {I : Nat → Nat → Int32} {J : Nat → Nat → Int64} {x1 : Int32} {x2 : Int32} {x3 : Int32} {x4 : Int32} {x5 : Int32} {x6 : Int32} {x7 : Int64} {s0 : Int64} {s1 : Int64} {mc ms : Nat} {o : mm_O} {σ' : mm_S} (hr : mm_Run l X 114 (d + 1) 79 [.ref 26, .int x1, .int x2, .int x3, .int x4, .int x5, .int x6, .long x7, .null] [.long (s1 * s0)] (mm_Λ, I, J) mc ms o σ') : mm_Run l X 114 (d + 1) 64 [.ref 26, .int x1, .int x2, .int x3, .int x4, .int x5, .int x6, .long x7, .null] [.long s0, .long s1] (mm_Λ, I, J) mc ms o σ' := by
  refine mm_lmul d114_64 ?_
  refine mm_goto (tgt := 79) d114_65 (by decide) ?_
  exact hr
theorem b114_68 {l : Launch} {X : Nat × (Nat → Int32)} {d : Nat} {I : Nat → Nat → Int32} {J : Nat → Nat → Int64} {x1 : Int32} {x2 : Int32} {x3 : Int32} {x4 : Int32} {x5 : Int32} {x6 : Int32} {x7 : Int64} {mc ms : Nat} {o : mm_O} {σ' : mm_S} (kt : ¬ x4 = 0 → mm_Run l X 114 (d + 1) 78 [.ref 26, .int x1, .int x2, .int x3, .int x4, .int x5, .int x6, .long x7, .null] [] (mm_Λ, I, J) mc ms o σ') (kf : ¬ (¬ x4 = 0) → mm_Run l X 114 (d + 1) 73 [.ref 26, .int x1, .int x2, .int x3, .int x4, .int x5, .int x6, .long x7, .null] [] (mm_Λ, I, J) mc ms o σ') : mm_Run l X 114 (d + 1) 68 [.ref 26, .int x1, .int x2, .int x3, .int x4, .int x5, .int x6, .long x7, .null] [] (mm_Λ, I, J) mc ms o σ' := by
  refine mm_iload d114_68 rfl ?_
  refine mm_if (tgt := 78) d114_70 (by decide) (fun h => ?_) (fun h => ?_)
  · exact kt h
  · exact kf h
theorem b114_73 {l : Launch} {X : Nat × (Nat → Int32)} {d : Nat} {I : Nat → Nat → Int32} {J : Nat → Nat → Int64} {x1 : Int32} {x2 : Int32} {x3 : Int32} {x4 : Int32} {x5 : Int32} {x6 : Int32} {x7 : Int64} {mc ms : Nat} {o : mm_O} {σ' : mm_S} (hr : mm_Run l X 114 (d + 1) 79 [.ref 26, .int x1, .int x2, .int x3, .int x4, .int x5, .int x6, .long x7, .null] [.long x7] (mm_Λ, I, J) mc ms o σ') : mm_Run l X 114 (d + 1) 73 [.ref 26, .int x1, .int x2, .int x3, .int x4, .int x5, .int x6, .long x7, .null] [] (mm_Λ, I, J) mc ms o σ' := by
  refine mm_lload d114_73 rfl ?_
  refine mm_goto (tgt := 79) d114_75 (by decide) ?_
  exact hr
theorem b114_78 {l : Launch} {X : Nat × (Nat → Int32)} {d : Nat} {I : Nat → Nat → Int32} {J : Nat → Nat → Int64} {x1 : Int32} {x2 : Int32} {x3 : Int32} {x4 : Int32} {x5 : Int32} {x6 : Int32} {x7 : Int64} {mc ms : Nat} {o : mm_O} {σ' : mm_S} (hr : mm_Run l X 114 (d + 1) 79 [.ref 26, .int x1, .int x2, .int x3, .int x4, .int x5, .int x6, .long x7, .null] [.long 0] (mm_Λ, I, J) mc ms o σ') : mm_Run l X 114 (d + 1) 78 [.ref 26, .int x1, .int x2, .int x3, .int x4, .int x5, .int x6, .long x7, .null] [] (mm_Λ, I, J) mc ms o σ' := by
  refine mm_lc d114_78 lc0 ?_
  exact hr
theorem b114_79 {l : Launch} {X : Nat × (Nat → Int32)} {d : Nat} {I : Nat → Nat → Int32} {J : Nat → Nat → Int64} {x1 : Int32} {x2 : Int32} {x3 : Int32} {x4 : Int32} {x5 : Int32} {x6 : Int32} {x7 : Int64} {s0 : Int64} {mc ms : Nat} {o : mm_O} {σ' : mm_S} (kt : x6 ≤ 2 → mm_Run l X 114 (d + 1) 106 [.ref 26, .int x1, .int x2, .int x3, .int x4, .int x5, .int x6, .long s0, .null] [] (mm_Λ, I, J) mc ms o σ') (kf : ¬ (x6 ≤ 2) → mm_Run l X 114 (d + 1) 87 [.ref 26, .int x1, .int x2, .int x3, .int x4, .int x5, .int x6, .long s0, .null] [] (mm_Λ, I, J) mc ms o σ') : mm_Run l X 114 (d + 1) 79 [.ref 26, .int x1, .int x2, .int x3, .int x4, .int x5, .int x6, .long x7, .null] [.long s0] (mm_Λ, I, J) mc ms o σ' := by
  refine mm_lstore d114_79 (by decide +kernel) ?_
  refine mm_iload d114_81 rfl ?_
  refine mm_ic d114_83 ci2 ?_
  refine mm_icmp (tgt := 106) d114_84 (by decide) (fun h => ?_) (fun h => ?_)
  · exact kt h
  · exact kf h
theorem b114_87 {l : Launch} {X : Nat × (Nat → Int32)} {d : Nat} {I : Nat → Nat → Int32} {J : Nat → Nat → Int64} {x1 : Int32} {x2 : Int32} {x3 : Int32} {x4 : Int32} {x5 : Int32} {x6 : Int32} {x7 : Int64} {mc ms : Nat} {o : mm_O} {σ' : mm_S} {r : Int32} {I1 : Nat → Nat → Int32} {J1 : Nat → Nat → Int64} (hcall : mm_Call l X 107 d [.ref 26, .int x1, .int x2, .int 2] (mm_Λ, I, J) 0 0 (.inl (some (.int r))) (mm_Λ, I1, J1)) (hr : mm_Run l X 114 (d + 1) 97 [.ref 26, .int x1, .int x2, .int x3, .int x4, .int x5, .int x6, .long x7, .null] [.int r, .ref 26, .long x7] (mm_Λ, I1, J1) mc ms o σ') : mm_Run l X 114 (d + 1) 87 [.ref 26, .int x1, .int x2, .int x3, .int x4, .int x5, .int x6, .long x7, .null] [] (mm_Λ, I, J) mc ms o σ' := by
  refine mm_lload d114_87 rfl ?_
  refine mm_aload_n (v := .ref 26) d114_89 rfl (Or.inl ⟨_, rfl⟩) ?_
  refine mm_aload_n (v := .ref 26) d114_90 rfl (Or.inl ⟨_, rfl⟩) ?_
  refine mm_iload_n d114_91 rfl ?_
  refine mm_iload_n d114_92 rfl ?_
  refine mm_ic d114_93 ci2 ?_
  exact mm_callV0 (as := [.int x1, .int x2, .int 2]) (S := [.ref 26, .long x7]) d114_94 okm107 ln114_75 im107 se107 rfl ⟨_, _, rfl⟩ rfl rfl (Nat.le_of_ble_eq_true rfl) (Nat.le_of_ble_eq_true rfl) hcall hr
theorem b114_97 {l : Launch} {X : Nat × (Nat → Int32)} {d : Nat} {I : Nat → Nat → Int32} {J : Nat → Nat → Int64} {x1 : Int32} {x2 : Int32} {x3 : Int32} {x4 : Int32} {x5 : Int32} {x6 : Int32} {x7 : Int64} {s0 : Int32} {s2 : Int64} {mc ms : Nat} {o : mm_O} {σ' : mm_S} {r : Int64} {I1 : Nat → Nat → Int32} {J1 : Nat → Nat → Int64} (hcall : mm_Call l X 115 d [.ref 26, .int s0, .int x5] (mm_Λ, I, J) 0 0 (.inl (some (.long r))) (mm_Λ, I1, J1)) (hr : mm_Run l X 114 (d + 1) 102 [.ref 26, .int x1, .int x2, .int x3, .int x4, .int x5, .int x6, .long x7, .null] [.long r, .long s2] (mm_Λ, I1, J1) mc ms o σ') : mm_Run l X 114 (d + 1) 97 [.ref 26, .int x1, .int x2, .int x3, .int x4, .int x5, .int x6, .long x7, .null] [.int s0, .ref 26, .long s2] (mm_Λ, I, J) mc ms o σ' := by
  refine mm_iload d114_97 rfl ?_
  exact mm_callV0 (as := [.int s0, .int x5]) (S := [.long s2]) d114_99 okm115 ln114_90 im115 se115 rfl ⟨_, _, rfl⟩ rfl rfl (Nat.le_of_ble_eq_true rfl) (Nat.le_of_ble_eq_true rfl) hcall hr
theorem b114_102 {l : Launch} {X : Nat × (Nat → Int32)} {d : Nat} {I : Nat → Nat → Int32} {J : Nat → Nat → Int64} {x1 : Int32} {x2 : Int32} {x3 : Int32} {x4 : Int32} {x5 : Int32} {x6 : Int32} {x7 : Int64} {s0 : Int64} {s1 : Int64} {mc ms : Nat} {o : mm_O} {σ' : mm_S} (hr : mm_Run l X 114 (d + 1) 117 [.ref 26, .int x1, .int x2, .int x3, .int x4, .int x5, .int x6, .long x7, .null] [.long (s1 * s0)] (mm_Λ, I, J) mc ms o σ') : mm_Run l X 114 (d + 1) 102 [.ref 26, .int x1, .int x2, .int x3, .int x4, .int x5, .int x6, .long x7, .null] [.long s0, .long s1] (mm_Λ, I, J) mc ms o σ' := by
  refine mm_lmul d114_102 ?_
  refine mm_goto (tgt := 117) d114_103 (by decide) ?_
  exact hr
theorem b114_106 {l : Launch} {X : Nat × (Nat → Int32)} {d : Nat} {I : Nat → Nat → Int32} {J : Nat → Nat → Int64} {x1 : Int32} {x2 : Int32} {x3 : Int32} {x4 : Int32} {x5 : Int32} {x6 : Int32} {x7 : Int64} {mc ms : Nat} {o : mm_O} {σ' : mm_S} (kt : ¬ x5 = 0 → mm_Run l X 114 (d + 1) 116 [.ref 26, .int x1, .int x2, .int x3, .int x4, .int x5, .int x6, .long x7, .null] [] (mm_Λ, I, J) mc ms o σ') (kf : ¬ (¬ x5 = 0) → mm_Run l X 114 (d + 1) 111 [.ref 26, .int x1, .int x2, .int x3, .int x4, .int x5, .int x6, .long x7, .null] [] (mm_Λ, I, J) mc ms o σ') : mm_Run l X 114 (d + 1) 106 [.ref 26, .int x1, .int x2, .int x3, .int x4, .int x5, .int x6, .long x7, .null] [] (mm_Λ, I, J) mc ms o σ' := by
  refine mm_iload d114_106 rfl ?_
  refine mm_if (tgt := 116) d114_108 (by decide) (fun h => ?_) (fun h => ?_)
  · exact kt h
  · exact kf h
theorem b114_111 {l : Launch} {X : Nat × (Nat → Int32)} {d : Nat} {I : Nat → Nat → Int32} {J : Nat → Nat → Int64} {x1 : Int32} {x2 : Int32} {x3 : Int32} {x4 : Int32} {x5 : Int32} {x6 : Int32} {x7 : Int64} {mc ms : Nat} {o : mm_O} {σ' : mm_S} (hr : mm_Run l X 114 (d + 1) 117 [.ref 26, .int x1, .int x2, .int x3, .int x4, .int x5, .int x6, .long x7, .null] [.long x7] (mm_Λ, I, J) mc ms o σ') : mm_Run l X 114 (d + 1) 111 [.ref 26, .int x1, .int x2, .int x3, .int x4, .int x5, .int x6, .long x7, .null] [] (mm_Λ, I, J) mc ms o σ' := by
  refine mm_lload d114_111 rfl ?_
  refine mm_goto (tgt := 117) d114_113 (by decide) ?_
  exact hr
theorem b114_116 {l : Launch} {X : Nat × (Nat → Int32)} {d : Nat} {I : Nat → Nat → Int32} {J : Nat → Nat → Int64} {x1 : Int32} {x2 : Int32} {x3 : Int32} {x4 : Int32} {x5 : Int32} {x6 : Int32} {x7 : Int64} {mc ms : Nat} {o : mm_O} {σ' : mm_S} (hr : mm_Run l X 114 (d + 1) 117 [.ref 26, .int x1, .int x2, .int x3, .int x4, .int x5, .int x6, .long x7, .null] [.long 0] (mm_Λ, I, J) mc ms o σ') : mm_Run l X 114 (d + 1) 116 [.ref 26, .int x1, .int x2, .int x3, .int x4, .int x5, .int x6, .long x7, .null] [] (mm_Λ, I, J) mc ms o σ' := by
  refine mm_lc d114_116 lc0 ?_
  exact hr
theorem b114_117 {l : Launch} {X : Nat × (Nat → Int32)} {d : Nat} {I : Nat → Nat → Int32} {J : Nat → Nat → Int64} {x1 : Int32} {x2 : Int32} {x3 : Int32} {x4 : Int32} {x5 : Int32} {x6 : Int32} {x7 : Int64} {s0 : Int64} {mc ms : Nat}  : mm_Run l X 114 (d + 1) 117 [.ref 26, .int x1, .int x2, .int x3, .int x4, .int x5, .int x6, .long x7, .null] [.long s0] (mm_Λ, I, J) mc ms (.inl (some (.long s0))) (mm_Λ, I, J) := by
  exact mm_lreturn d114_117 rfl
theorem b115_0 {l : Launch} {X : Nat × (Nat → Int32)} {d : Nat} {I : Nat → Nat → Int32} {J : Nat → Nat → Int64} {x1 : Int32} {x2 : Int32} {mc ms : Nat} {o : mm_O} {σ' : mm_S} (kt : x2 < 1 → mm_Run l X 115 d 11 [.ref 26, .int x1, .int x2] [] (mm_Λ, I, J) mc ms o σ') (kf : ¬ (x2 < 1) → mm_Run l X 115 d 5 [.ref 26, .int x1, .int x2] [] (mm_Λ, I, J) mc ms o σ') : mm_Run l X 115 d 0 [.ref 26, .int x1, .int x2] [] (mm_Λ, I, J) mc ms o σ' := by
  refine mm_iload_n d115_0 rfl ?_
  refine mm_ic d115_1 ci1 ?_
  refine mm_icmp (tgt := 11) d115_2 (by decide) (fun h => ?_) (fun h => ?_)
  · exact kt h
  · exact kf h
theorem b115_5 {l : Launch} {X : Nat × (Nat → Int32)} {d : Nat} {I : Nat → Nat → Int32} {J : Nat → Nat → Int64} {x1 : Int32} {x2 : Int32} {mc ms : Nat} {o : mm_O} {σ' : mm_S} (kt : x2 ≤ 12 → mm_Run l X 115 d 15 [.ref 26, .int x1, .int x2] [] (mm_Λ, I, J) mc ms o σ') (kf : ¬ (x2 ≤ 12) → mm_Run l X 115 d 11 [.ref 26, .int x1, .int x2] [] (mm_Λ, I, J) mc ms o σ') : mm_Run l X 115 d 5 [.ref 26, .int x1, .int x2] [] (mm_Λ, I, J) mc ms o σ' := by
  refine mm_iload_n d115_5 rfl ?_
  refine mm_bi d115_6 cb12 ?_
  refine mm_icmp (tgt := 15) d115_8 (by decide) (fun h => ?_) (fun h => ?_)
  · exact kt h
  · exact kf h
theorem b115_11 {l : Launch} {X : Nat × (Nat → Int32)} {d : Nat} {I : Nat → Nat → Int32} {J : Nat → Nat → Int64} {x1 : Int32} {x2 : Int32} {mc ms : Nat} {o : mm_O} {σ' : mm_S} (hr : mm_Run l X 115 d 26 [.ref 26, .int x1, .int x2] [.long 0] (mm_Λ, I, J) mc ms o σ') : mm_Run l X 115 d 11 [.ref 26, .int x1, .int x2] [] (mm_Λ, I, J) mc ms o σ' := by
  refine mm_lc d115_11 lc0 ?_
  refine mm_goto (tgt := 26) d115_12 (by decide) ?_
  exact hr
theorem b115_15 {l : Launch} {X : Nat × (Nat → Int32)} {d : Nat} {I : Nat → Nat → Int32} {J : Nat → Nat → Int64} {x1 : Int32} {x2 : Int32} {mc ms : Nat} {o : mm_O} {σ' : mm_S} (i25 : vp_in ((13 * x1) + x2) 78) (hr : mm_Run l X 115 d 26 [.ref 26, .int x1, .int x2] [.long (J 31 ((13 * x1) + x2).toNatClampNeg)] (mm_Λ, I, J) mc ms o σ') : mm_Run l X 115 d 15 [.ref 26, .int x1, .int x2] [] (mm_Λ, I, J) mc ms o σ' := by
  refine mm_aload_n (v := .ref 26) d115_15 rfl (Or.inl ⟨_, rfl⟩) ?_
  refine mm_getfield (v := .ref 31) d115_16 okc9 fk115_23 rfl rfl (by nofun) ?_
  refine mm_bi d115_19 cb13 ?_
  refine mm_iload_n d115_21 rfl ?_
  refine mm_imul d115_22 ?_
  refine mm_iload_n d115_23 rfl ?_
  refine mm_iadd d115_24 ?_
  refine mm_laload d115_25 rfl i25 ?_
  exact hr
theorem b115_26 {l : Launch} {X : Nat × (Nat → Int32)} {d : Nat} {I : Nat → Nat → Int32} {J : Nat → Nat → Int64} {x1 : Int32} {x2 : Int32} {s0 : Int64} {mc ms : Nat}  : mm_Run l X 115 d 26 [.ref 26, .int x1, .int x2] [.long s0] (mm_Λ, I, J) mc ms (.inl (some (.long s0))) (mm_Λ, I, J) := by
  exact mm_lreturn d115_26 rfl
theorem b116_0 {l : Launch} {X : Nat × (Nat → Int32)} {d : Nat} {I : Nat → Nat → Int32} {J : Nat → Nat → Int64} {x1 : Int32} {x2 : Int32} {x3 : Int64} {mc ms : Nat} {o : mm_O} {σ' : mm_S} {r : Int32} {I1 : Nat → Nat → Int32} {J1 : Nat → Nat → Int64} (hcall : mm_Call l X 104 d [.int x1, .int x2] (mm_Λ, I, J) 0 0 (.inl (some (.int r))) (mm_Λ, I1, J1)) (hr : mm_Run l X 116 (d + 1) 6 [.ref 26, .int x1, .int x2, .long x3, .null] [.int r, .ref 26] (mm_Λ, I1, J1) mc ms o σ') : mm_Run l X 116 (d + 1) 0 [.ref 26, .int x1, .int x2, .long x3, .null] [] (mm_Λ, I, J) mc ms o σ' := by
  refine mm_aload_n (v := .ref 26) d116_0 rfl (Or.inl ⟨_, rfl⟩) ?_
  refine mm_iload_n d116_1 rfl ?_
  refine mm_iload_n d116_2 rfl ?_
  exact mm_callS0 (as := [.int x1, .int x2]) (S := [.ref 26]) d116_3 okm104 ln116_101 st104 rfl rfl (Nat.le_of_ble_eq_true rfl) (Nat.le_of_ble_eq_true rfl) hcall hr
theorem b116_6 {l : Launch} {X : Nat × (Nat → Int32)} {d : Nat} {I : Nat → Nat → Int32} {J : Nat → Nat → Int64} {x1 : Int32} {x2 : Int32} {x3 : Int64} {s0 : Int32} {mc ms : Nat} {o : mm_O} {σ' : mm_S} (kt : s0 ≤ 0 → mm_Run l X 116 (d + 1) 18 [.ref 26, .int x1, .int x2, .long x3, .null] [] (mm_Λ, (mm_set I 26 0 s0), J) mc ms o σ') (kf : ¬ (s0 ≤ 0) → mm_Run l X 116 (d + 1) 16 [.ref 26, .int x1, .int x2, .long x3, .null] [] (mm_Λ, (mm_set I 26 0 s0), J) mc ms o σ') : mm_Run l X 116 (d + 1) 6 [.ref 26, .int x1, .int x2, .long x3, .null] [.int s0, .ref 26] (mm_Λ, I, J) mc ms o σ' := by
  refine mm_putfield d116_6 okc9 fk116_65 fp116_65 rfl rfl rfl ?_
  refine mm_aload_n (v := .ref 26) d116_9 rfl (Or.inl ⟨_, rfl⟩) ?_
  refine mm_getfield (v := .int s0) d116_10 okc9 fk116_65 rfl rfl (by nofun) ?_
  refine mm_if (tgt := 18) d116_13 (by decide) (fun h => ?_) (fun h => ?_)
  · exact kt h
  · exact kf h
theorem b116_16 {l : Launch} {X : Nat × (Nat → Int32)} {d : Nat} {I : Nat → Nat → Int32} {J : Nat → Nat → Int64} {x1 : Int32} {x2 : Int32} {x3 : Int64} {mc ms : Nat}  : mm_Run l X 116 (d + 1) 16 [.ref 26, .int x1, .int x2, .long x3, .null] [] (mm_Λ, I, J) mc ms (.inl (some (.int 0))) (mm_Λ, I, J) := by
  refine mm_ic d116_16 ci0 ?_
  exact mm_ireturn d116_17 rfl
theorem b116_18 {l : Launch} {X : Nat × (Nat → Int32)} {d : Nat} {I : Nat → Nat → Int32} {J : Nat → Nat → Int64} {x1 : Int32} {x2 : Int32} {x3 : Int64} {mc ms : Nat} {o : mm_O} {σ' : mm_S} {I1 : Nat → Nat → Int32} {J1 : Nat → Nat → Int64} (hcall : mm_Call l X 105 d [.ref 26] (mm_Λ, I, J) 0 0 (.inl none) (mm_Λ, I1, J1)) (hr : mm_Run l X 116 (d + 1) 22 [.ref 26, .int x1, .int x2, .long x3, .null] [] (mm_Λ, I1, J1) mc ms o σ') : mm_Run l X 116 (d + 1) 18 [.ref 26, .int x1, .int x2, .long x3, .null] [] (mm_Λ, I, J) mc ms o σ' := by
  refine mm_aload_n (v := .ref 26) d116_18 rfl (Or.inl ⟨_, rfl⟩) ?_
  exact mm_callV0 (as := []) (S := []) d116_19 okm105 ln116_105 im105 se105 rfl ⟨_, _, rfl⟩ rfl rfl (Nat.le_of_ble_eq_true rfl) (Nat.le_of_ble_eq_true rfl) hcall hr
theorem b116_22 {l : Launch} {X : Nat × (Nat → Int32)} {d : Nat} {I : Nat → Nat → Int32} {J : Nat → Nat → Int64} {x1 : Int32} {x2 : Int32} {x3 : Int64} {mc ms : Nat} {o : mm_O} {σ' : mm_S} (kt : (lg_cmp x3 0) < 0 → mm_Run l X 116 (d + 1) 55 [.ref 26, .int x1, .int x2, .long x3, .null] [.ref 26] (mm_Λ, I, J) mc ms o σ') (kf : ¬ ((lg_cmp x3 0) < 0) → mm_Run l X 116 (d + 1) 29 [.ref 26, .int x1, .int x2, .long x3, .null] [.ref 26] (mm_Λ, I, J) mc ms o σ') : mm_Run l X 116 (d + 1) 22 [.ref 26, .int x1, .int x2, .long x3, .null] [] (mm_Λ, I, J) mc ms o σ' := by
  refine mm_aload_n (v := .ref 26) d116_22 rfl (Or.inl ⟨_, rfl⟩) ?_
  refine mm_lload_n d116_23 rfl ?_
  refine mm_lc d116_24 lc0 ?_
  refine mm_lcmp d116_25 ?_
  refine mm_if (tgt := 55) d116_26 (by decide) (fun h => ?_) (fun h => ?_)
  · exact kt h
  · exact kf h
theorem b116_29 {l : Launch} {X : Nat × (Nat → Int32)} {d : Nat} {I : Nat → Nat → Int32} {J : Nat → Nat → Int64} {x1 : Int32} {x2 : Int32} {x3 : Int64} {mc ms : Nat} {o : mm_O} {σ' : mm_S} (i42 : vp_in (((6 * x1) + x2) + 1) 36) (kt : 0 ≤ (lg_cmp x3 (J 30 (((6 * x1) + x2) + 1).toNatClampNeg)) → mm_Run l X 116 (d + 1) 55 [.ref 26, .int x1, .int x2, .long x3, .null] [.ref 26] (mm_Λ, I, J) mc ms o σ') (kf : ¬ (0 ≤ (lg_cmp x3 (J 30 (((6 * x1) + x2) + 1).toNatClampNeg))) → mm_Run l X 116 (d + 1) 47 [.ref 26, .int x1, .int x2, .long x3, .null] [.ref 26] (mm_Λ, I, J) mc ms o σ') : mm_Run l X 116 (d + 1) 29 [.ref 26, .int x1, .int x2, .long x3, .null] [.ref 26] (mm_Λ, I, J) mc ms o σ' := by
  refine mm_lload_n d116_29 rfl ?_
  refine mm_aload_n (v := .ref 26) d116_30 rfl (Or.inl ⟨_, rfl⟩) ?_
  refine mm_getfield (v := .ref 30) d116_31 okc9 fk116_19 rfl rfl (by nofun) ?_
  refine mm_bi d116_34 cb6 ?_
  refine mm_iload_n d116_36 rfl ?_
  refine mm_imul d116_37 ?_
  refine mm_iload_n d116_38 rfl ?_
  refine mm_iadd d116_39 ?_
  refine mm_ic d116_40 ci1 ?_
  refine mm_iadd d116_41 ?_
  refine mm_laload d116_42 rfl i42 ?_
  refine mm_lcmp d116_43 ?_
  refine mm_if (tgt := 55) d116_44 (by decide) (fun h => ?_) (fun h => ?_)
  · exact kt h
  · exact kf h
theorem b116_47 {l : Launch} {X : Nat × (Nat → Int32)} {d : Nat} {I : Nat → Nat → Int32} {J : Nat → Nat → Int64} {x1 : Int32} {x2 : Int32} {x3 : Int64} {mc ms : Nat} {o : mm_O} {σ' : mm_S} (kt : (lg_cmp x3 1000000000000000) < 0 → mm_Run l X 116 (d + 1) 59 [.ref 26, .int x1, .int x2, .long x3, .null] [.ref 26] (mm_Λ, I, J) mc ms o σ') (kf : ¬ ((lg_cmp x3 1000000000000000) < 0) → mm_Run l X 116 (d + 1) 55 [.ref 26, .int x1, .int x2, .long x3, .null] [.ref 26] (mm_Λ, I, J) mc ms o σ') : mm_Run l X 116 (d + 1) 47 [.ref 26, .int x1, .int x2, .long x3, .null] [.ref 26] (mm_Λ, I, J) mc ms o σ' := by
  refine mm_lload_n d116_47 rfl ?_
  refine mm_ldc2 d116_48 kl116_73 ?_
  refine mm_lcmp d116_51 ?_
  refine mm_if (tgt := 59) d116_52 (by decide) (fun h => ?_) (fun h => ?_)
  · exact kt h
  · exact kf h
theorem b116_55 {l : Launch} {X : Nat × (Nat → Int32)} {d : Nat} {I : Nat → Nat → Int32} {J : Nat → Nat → Int64} {x1 : Int32} {x2 : Int32} {x3 : Int64} {mc ms : Nat} {o : mm_O} {σ' : mm_S} (hr : mm_Run l X 116 (d + 1) 60 [.ref 26, .int x1, .int x2, .long x3, .null] [.int 3, .ref 26] (mm_Λ, I, J) mc ms o σ') : mm_Run l X 116 (d + 1) 55 [.ref 26, .int x1, .int x2, .long x3, .null] [.ref 26] (mm_Λ, I, J) mc ms o σ' := by
  refine mm_ic d116_55 ci3 ?_
  refine mm_goto (tgt := 60) d116_56 (by decide) ?_
  exact hr
theorem b116_59 {l : Launch} {X : Nat × (Nat → Int32)} {d : Nat} {I : Nat → Nat → Int32} {J : Nat → Nat → Int64} {x1 : Int32} {x2 : Int32} {x3 : Int64} {mc ms : Nat} {o : mm_O} {σ' : mm_S} (hr : mm_Run l X 116 (d + 1) 60 [.ref 26, .int x1, .int x2, .long x3, .null] [.int 0, .ref 26] (mm_Λ, I, J) mc ms o σ') : mm_Run l X 116 (d + 1) 59 [.ref 26, .int x1, .int x2, .long x3, .null] [.ref 26] (mm_Λ, I, J) mc ms o σ' := by
  refine mm_ic d116_59 ci0 ?_
  exact hr
theorem b116_60 {l : Launch} {X : Nat × (Nat → Int32)} {d : Nat} {I : Nat → Nat → Int32} {J : Nat → Nat → Int64} {x1 : Int32} {x2 : Int32} {x3 : Int64} {s0 : Int32} {mc ms : Nat} {o : mm_O} {σ' : mm_S} (kt : s0 ≤ 0 → mm_Run l X 116 (d + 1) 72 [.ref 26, .int x1, .int x2, .long x3, .null] [] (mm_Λ, (mm_set I 26 0 s0), J) mc ms o σ') (kf : ¬ (s0 ≤ 0) → mm_Run l X 116 (d + 1) 70 [.ref 26, .int x1, .int x2, .long x3, .null] [] (mm_Λ, (mm_set I 26 0 s0), J) mc ms o σ') : mm_Run l X 116 (d + 1) 60 [.ref 26, .int x1, .int x2, .long x3, .null] [.int s0, .ref 26] (mm_Λ, I, J) mc ms o σ' := by
  refine mm_putfield d116_60 okc9 fk116_65 fp116_65 rfl rfl rfl ?_
  refine mm_aload_n (v := .ref 26) d116_63 rfl (Or.inl ⟨_, rfl⟩) ?_
  refine mm_getfield (v := .int s0) d116_64 okc9 fk116_65 rfl rfl (by nofun) ?_
  refine mm_if (tgt := 72) d116_67 (by decide) (fun h => ?_) (fun h => ?_)
  · exact kt h
  · exact kf h
theorem b116_70 {l : Launch} {X : Nat × (Nat → Int32)} {d : Nat} {I : Nat → Nat → Int32} {J : Nat → Nat → Int64} {x1 : Int32} {x2 : Int32} {x3 : Int64} {mc ms : Nat}  : mm_Run l X 116 (d + 1) 70 [.ref 26, .int x1, .int x2, .long x3, .null] [] (mm_Λ, I, J) mc ms (.inl (some (.int 0))) (mm_Λ, I, J) := by
  refine mm_ic d116_70 ci0 ?_
  exact mm_ireturn d116_71 rfl
theorem b116_72 {l : Launch} {X : Nat × (Nat → Int32)} {d : Nat} {I : Nat → Nat → Int32} {J : Nat → Nat → Int64} {x1 : Int32} {x2 : Int32} {x3 : Int64} {mc ms : Nat} {o : mm_O} {σ' : mm_S} {I1 : Nat → Nat → Int32} {J1 : Nat → Nat → Int64} (hcall : mm_Call l X 117 d [.ref 26, .int x1, .int x2, .long x3] (mm_Λ, I, J) 0 0 (.inl none) (mm_Λ, I1, J1)) (hr : mm_Run l X 116 (d + 1) 79 [.ref 26, .int x1, .int x2, .long x3, .null] [] (mm_Λ, I1, J1) mc ms o σ') : mm_Run l X 116 (d + 1) 72 [.ref 26, .int x1, .int x2, .long x3, .null] [] (mm_Λ, I, J) mc ms o σ' := by
  refine mm_aload_n (v := .ref 26) d116_72 rfl (Or.inl ⟨_, rfl⟩) ?_
  refine mm_iload_n d116_73 rfl ?_
  refine mm_iload_n d116_74 rfl ?_
  refine mm_lload_n d116_75 rfl ?_
  exact mm_callV0 (as := [.int x1, .int x2, .long x3]) (S := []) d116_76 okm117 ln116_135 im117 se117 rfl ⟨_, _, rfl⟩ rfl rfl (Nat.le_of_ble_eq_true rfl) (Nat.le_of_ble_eq_true rfl) hcall hr
theorem b116_79 {l : Launch} {X : Nat × (Nat → Int32)} {d : Nat} {I : Nat → Nat → Int32} {J : Nat → Nat → Int64} {x1 : Int32} {x2 : Int32} {x3 : Int64} {mc ms : Nat} {o : mm_O} {σ' : mm_S} {I1 : Nat → Nat → Int32} {J1 : Nat → Nat → Int64} (hcall : mm_Call l X 122 d [.ref 26] (mm_Λ, I, J) 0 0 (.inl none) (mm_Λ, I1, J1)) (hr : mm_Run l X 116 (d + 1) 83 [.ref 26, .int x1, .int x2, .long x3, .null] [] (mm_Λ, I1, J1) mc ms o σ') : mm_Run l X 116 (d + 1) 79 [.ref 26, .int x1, .int x2, .long x3, .null] [] (mm_Λ, I, J) mc ms o σ' := by
  refine mm_aload_n (v := .ref 26) d116_79 rfl (Or.inl ⟨_, rfl⟩) ?_
  exact mm_callV0 (as := []) (S := []) d116_80 okm122 ln116_138 im122 se122 rfl ⟨_, _, rfl⟩ rfl rfl (Nat.le_of_ble_eq_true rfl) (Nat.le_of_ble_eq_true rfl) hcall hr
theorem b116_83 {l : Launch} {X : Nat × (Nat → Int32)} {d : Nat} {I : Nat → Nat → Int32} {J : Nat → Nat → Int64} {x1 : Int32} {x2 : Int32} {x3 : Int64} {mc ms : Nat}  : mm_Run l X 116 (d + 1) 83 [.ref 26, .int x1, .int x2, .long x3, .null] [] (mm_Λ, I, J) mc ms (.inl (some (.int (I 26 8)))) (mm_Λ, I, J) := by
  refine mm_aload_n (v := .ref 26) d116_83 rfl (Or.inl ⟨_, rfl⟩) ?_
  refine mm_getfield (v := .int (I 26 8)) d116_84 okc9 fk116_132 rfl rfl (by nofun) ?_
  exact mm_ireturn d116_87 rfl
theorem b117_0 {l : Launch} {X : Nat × (Nat → Int32)} {d : Nat} {I : Nat → Nat → Int32} {J : Nat → Nat → Int64} {x1 : Int32} {x2 : Int32} {x3 : Int64} {mc ms : Nat} {o : mm_O} {σ' : mm_S} {I1 : Nat → Nat → Int32} {J1 : Nat → Nat → Int64} (hcall : mm_Call l X 118 d [.ref 26] (mm_Λ, I, J) 0 0 (.inl none) (mm_Λ, I1, J1)) (hr : mm_Run l X 117 (d + 1) 4 [.ref 26, .int x1, .int x2, .long x3, .null, .null] [] (mm_Λ, I1, J1) mc ms o σ') : mm_Run l X 117 (d + 1) 0 [.ref 26, .int x1, .int x2, .long x3, .null, .null] [] (mm_Λ, I, J) mc ms o σ' := by
  refine mm_aload_n (v := .ref 26) d117_0 rfl (Or.inl ⟨_, rfl⟩) ?_
  exact mm_callV0 (as := []) (S := []) d117_1 okm118 ln117_121 im118 se118 rfl ⟨_, _, rfl⟩ rfl rfl (Nat.le_of_ble_eq_true rfl) (Nat.le_of_ble_eq_true rfl) hcall hr
theorem b117_4 {l : Launch} {X : Nat × (Nat → Int32)} {d : Nat} {I : Nat → Nat → Int32} {J : Nat → Nat → Int64} {x1 : Int32} {x2 : Int32} {x3 : Int64} {mc ms : Nat} {o : mm_O} {σ' : mm_S} {I1 : Nat → Nat → Int32} {J1 : Nat → Nat → Int64} (hcall : mm_Call l X 119 d [.ref 26, .int 0, .int x1, .long x3] (mm_Λ, (mm_set I 26 10 0), J) 0 0 (.inl none) (mm_Λ, I1, J1)) (hr : mm_Run l X 117 (d + 1) 16 [.ref 26, .int x1, .int x2, .long x3, .null, .null] [] (mm_Λ, I1, J1) mc ms o σ') : mm_Run l X 117 (d + 1) 4 [.ref 26, .int x1, .int x2, .long x3, .null, .null] [] (mm_Λ, I, J) mc ms o σ' := by
  refine mm_aload_n (v := .ref 26) d117_4 rfl (Or.inl ⟨_, rfl⟩) ?_
  refine mm_ic d117_5 ci0 ?_
  refine mm_putfield d117_6 okc9 fk117_114 fp117_114 rfl rfl rfl ?_
  refine mm_aload_n (v := .ref 26) d117_9 rfl (Or.inl ⟨_, rfl⟩) ?_
  refine mm_ic d117_10 ci0 ?_
  refine mm_iload_n d117_11 rfl ?_
  refine mm_lload_n d117_12 rfl ?_
  exact mm_callV0 (as := [.int 0, .int x1, .long x3]) (S := []) d117_13 okm119 ln117_117 im119 se119 rfl ⟨_, _, rfl⟩ rfl rfl (Nat.le_of_ble_eq_true rfl) (Nat.le_of_ble_eq_true rfl) hcall hr
theorem b117_16 {l : Launch} {X : Nat × (Nat → Int32)} {d : Nat} {I : Nat → Nat → Int32} {J : Nat → Nat → Int64} {x1 : Int32} {x2 : Int32} {x3 : Int64} {mc ms : Nat} {o : mm_O} {σ' : mm_S} (kt : (I 26 10) ≤ 0 → mm_Run l X 117 (d + 1) 78 [.ref 26, .int x1, .int x2, .long x3, .null, .null] [] (mm_Λ, I, J) mc ms o σ') (kf : ¬ ((I 26 10) ≤ 0) → mm_Run l X 117 (d + 1) 23 [.ref 26, .int x1, .int x2, .long x3, .null, .null] [] (mm_Λ, I, J) mc ms o σ') : mm_Run l X 117 (d + 1) 16 [.ref 26, .int x1, .int x2, .long x3, .null, .null] [] (mm_Λ, I, J) mc ms o σ' := by
  refine mm_aload_n (v := .ref 26) d117_16 rfl (Or.inl ⟨_, rfl⟩) ?_
  refine mm_getfield (v := .int (I 26 10)) d117_17 okc9 fk117_114 rfl rfl (by nofun) ?_
  refine mm_if (tgt := 78) d117_20 (by decide) (fun h => ?_) (fun h => ?_)
  · exact kt h
  · exact kf h
theorem b117_23 {l : Launch} {X : Nat × (Nat → Int32)} {d : Nat} {I : Nat → Nat → Int32} {J : Nat → Nat → Int64} {x1 : Int32} {x2 : Int32} {x3 : Int64} {mc ms : Nat} {o : mm_O} {σ' : mm_S} (i41 : vp_in ((I 26 10) - 1) 512) (i55 : vp_in ((I 26 10) - 1) 512) {r : Int32} {I1 : Nat → Nat → Int32} {J1 : Nat → Nat → Int64} (hcall : mm_Call l X 120 d [.int (I 35 ((I 26 10) - 1).toNatClampNeg)] (mm_Λ, (mm_set I 26 10 ((I 26 10) - 1)), J) 0 0 (.inl (some (.int r))) (mm_Λ, I1, J1)) (hr : mm_Run l X 117 (d + 1) 62 [.ref 26, .int x1, .int x2, .long x3, .null, .int (I 35 ((I 26 10) - 1).toNatClampNeg)] [.int r, .int x2, .int (I 36 ((I 26 10) - 1).toNatClampNeg), .int (I 35 ((I 26 10) - 1).toNatClampNeg), .ref 26] (mm_Λ, I1, J1) mc ms o σ') : mm_Run l X 117 (d + 1) 23 [.ref 26, .int x1, .int x2, .long x3, .null, .null] [] (mm_Λ, I, J) mc ms o σ' := by
  refine mm_aload_n (v := .ref 26) d117_23 rfl (Or.inl ⟨_, rfl⟩) ?_
  refine mm_dup d117_24 rfl ?_
  refine mm_getfield (v := .int (I 26 10)) d117_25 okc9 fk117_114 rfl rfl (by nofun) ?_
  refine mm_ic d117_28 ci1 ?_
  refine mm_isub d117_29 ?_
  refine mm_putfield d117_30 okc9 fk117_114 fp117_114 rfl rfl rfl ?_
  refine mm_aload_n (v := .ref 26) d117_33 rfl (Or.inl ⟨_, rfl⟩) ?_
  refine mm_getfield (v := .ref 35) d117_34 okc9 fk117_35 rfl rfl (by nofun) ?_
  refine mm_aload_n (v := .ref 26) d117_37 rfl (Or.inl ⟨_, rfl⟩) ?_
  refine mm_getfield (v := .int ((I 26 10) - 1)) d117_38 okc9 fk117_114 rfl rfl (by nofun) ?_
  refine mm_iaload d117_41 rfl i41 ?_
  refine mm_istore d117_42 (by decide +kernel) ?_
  refine mm_aload_n (v := .ref 26) d117_44 rfl (Or.inl ⟨_, rfl⟩) ?_
  refine mm_iload d117_45 rfl ?_
  refine mm_aload_n (v := .ref 26) d117_47 rfl (Or.inl ⟨_, rfl⟩) ?_
  refine mm_getfield (v := .ref 36) d117_48 okc9 fk117_38 rfl rfl (by nofun) ?_
  refine mm_aload_n (v := .ref 26) d117_51 rfl (Or.inl ⟨_, rfl⟩) ?_
  refine mm_getfield (v := .int ((I 26 10) - 1)) d117_52 okc9 fk117_114 rfl rfl (by nofun) ?_
  refine mm_iaload d117_55 rfl i55 ?_
  refine mm_iload_n d117_56 rfl ?_
  refine mm_iload d117_57 rfl ?_
  exact mm_callS0 (as := [.int (I 35 ((I 26 10) - 1).toNatClampNeg)]) (S := [.int x2, .int (I 36 ((I 26 10) - 1).toNatClampNeg), .int (I 35 ((I 26 10) - 1).toNatClampNeg), .ref 26]) d117_59 okm120 ln117_124 st120 rfl rfl (Nat.le_of_ble_eq_true rfl) (Nat.le_of_ble_eq_true rfl) hcall hr
theorem b117_62 {l : Launch} {X : Nat × (Nat → Int32)} {d : Nat} {I : Nat → Nat → Int32} {J : Nat → Nat → Int64} {x1 : Int32} {x2 : Int32} {x3 : Int64} {x5 : Int32} {s0 : Int32} {s1 : Int32} {s2 : Int32} {s3 : Int32} {mc ms : Nat} {o : mm_O} {σ' : mm_S} (i71 : vp_in (I 26 10) 512) {I1 : Nat → Nat → Int32} {J1 : Nat → Nat → Int64} (hcall : mm_Call l X 121 d [.ref 26, .int s3, .int s2, .int (s1 - s0), .long (J 37 (I 26 10).toNatClampNeg)] (mm_Λ, I, J) 0 0 (.inl none) (mm_Λ, I1, J1)) (hr : mm_Run l X 117 (d + 1) 75 [.ref 26, .int x1, .int x2, .long x3, .null, .int x5] [] (mm_Λ, I1, J1) mc ms o σ') : mm_Run l X 117 (d + 1) 62 [.ref 26, .int x1, .int x2, .long x3, .null, .int x5] [.int s0, .int s1, .int s2, .int s3, .ref 26] (mm_Λ, I, J) mc ms o σ' := by
  refine mm_isub d117_62 ?_
  refine mm_aload_n (v := .ref 26) d117_63 rfl (Or.inl ⟨_, rfl⟩) ?_
  refine mm_getfield (v := .ref 37) d117_64 okc9 fk117_41 rfl rfl (by nofun) ?_
  refine mm_aload_n (v := .ref 26) d117_67 rfl (Or.inl ⟨_, rfl⟩) ?_
  refine mm_getfield (v := .int (I 26 10)) d117_68 okc9 fk117_114 rfl rfl (by nofun) ?_
  refine mm_laload d117_71 rfl i71 ?_
  exact mm_callV0 (as := [.int s3, .int s2, .int (s1 - s0), .long (J 37 (I 26 10).toNatClampNeg)]) (S := []) d117_72 okm121 ln117_128 im121 se121 rfl ⟨_, _, rfl⟩ rfl rfl (Nat.le_of_ble_eq_true rfl) (Nat.le_of_ble_eq_true rfl) hcall hr
theorem b117_75 {l : Launch} {X : Nat × (Nat → Int32)} {d : Nat} {I : Nat → Nat → Int32} {J : Nat → Nat → Int64} {x1 : Int32} {x2 : Int32} {x3 : Int64} {x5 : Int32} {mc ms : Nat} {o : mm_O} {σ' : mm_S} (hr : mm_Run l X 117 (d + 1) 16 [.ref 26, .int x1, .int x2, .long x3, .null, .null] [] (mm_Λ, I, J) mc ms o σ') : mm_Run l X 117 (d + 1) 75 [.ref 26, .int x1, .int x2, .long x3, .null, .int x5] [] (mm_Λ, I, J) mc ms o σ' := by
  refine mm_goto (tgt := 16) d117_75 (by decide) ?_
  exact mm_forget hr (by exact ⟨rfl, rfl, rfl, rfl, trivial⟩)
theorem b117_78 {l : Launch} {X : Nat × (Nat → Int32)} {d : Nat} {I : Nat → Nat → Int32} {J : Nat → Nat → Int64} {x1 : Int32} {x2 : Int32} {x3 : Int64} {mc ms : Nat}  : mm_Run l X 117 (d + 1) 78 [.ref 26, .int x1, .int x2, .long x3, .null, .null] [] (mm_Λ, I, J) mc ms (.inl none) (mm_Λ, I, J) := by
  exact mm_vreturn d117_78 rfl
theorem b118_0 {l : Launch} {X : Nat × (Nat → Int32)} {d : Nat} {I : Nat → Nat → Int32} {J : Nat → Nat → Int64}  {mc ms : Nat} {o : mm_O} {σ' : mm_S} (hr : mm_Run l X 118 d 2 [.ref 26, .int 0] [] (mm_Λ, I, J) mc ms o σ') : mm_Run l X 118 d 0 [.ref 26, .null] [] (mm_Λ, I, J) mc ms o σ' := by
  refine mm_ic d118_0 ci0 ?_
  refine mm_istore_n d118_1 (by decide +kernel) ?_
  exact hr
theorem b118_2 {l : Launch} {X : Nat × (Nat → Int32)} {d : Nat} {I : Nat → Nat → Int32} {J : Nat → Nat → Int64} {x1 : Int32} {mc ms : Nat} {o : mm_O} {σ' : mm_S} (kt : 256 ≤ x1 → mm_Run l X 118 d 22 [.ref 26, .int x1] [] (mm_Λ, I, J) mc ms o σ') (kf : ¬ (256 ≤ x1) → mm_Run l X 118 d 9 [.ref 26, .int x1] [] (mm_Λ, I, J) mc ms o σ') : mm_Run l X 118 d 2 [.ref 26, .int x1] [] (mm_Λ, I, J) mc ms o σ' := by
  refine mm_iload_n d118_2 rfl ?_
  refine mm_si d118_3 cs256 ?_
  refine mm_icmp (tgt := 22) d118_6 (by decide) (fun h => ?_) (fun h => ?_)
  · exact kt h
  · exact kf h
theorem b118_9 {l : Launch} {X : Nat × (Nat → Int32)} {d : Nat} {I : Nat → Nat → Int32} {J : Nat → Nat → Int64} {x1 : Int32} {mc ms : Nat} {o : mm_O} {σ' : mm_S} (i15 : vp_in x1 256) (hr : mm_Run l X 118 d 2 [.ref 26, .int (x1 + 1)] [] (mm_Λ, (mm_set I 32 x1.toNatClampNeg (-1)), J) mc ms o σ') : mm_Run l X 118 d 9 [.ref 26, .int x1] [] (mm_Λ, I, J) mc ms o σ' := by
  refine mm_aload_n (v := .ref 26) d118_9 rfl (Or.inl ⟨_, rfl⟩) ?_
  refine mm_getfield (v := .ref 32) d118_10 okc9 fk118_26 rfl rfl (by nofun) ?_
  refine mm_iload_n d118_13 rfl ?_
  refine mm_ic d118_14 cim1 ?_
  refine mm_iastore d118_15 rfl i15 ?_
  refine mm_ii d118_16 ci1 rfl (by decide +kernel) ?_
  refine mm_goto (tgt := 2) d118_19 (by decide) ?_
  exact hr
theorem b118_22 {l : Launch} {X : Nat × (Nat → Int32)} {d : Nat} {I : Nat → Nat → Int32} {J : Nat → Nat → Int64} {x1 : Int32} {mc ms : Nat}  : mm_Run l X 118 d 22 [.ref 26, .int x1] [] (mm_Λ, I, J) mc ms (.inl none) (mm_Λ, I, J) := by
  exact mm_vreturn d118_22 rfl
theorem b119_0 {l : Launch} {X : Nat × (Nat → Int32)} {d : Nat} {I : Nat → Nat → Int32} {J : Nat → Nat → Int64} {x1 : Int32} {x2 : Int32} {x3 : Int64} {mc ms : Nat} (i9 : vp_in (I 26 10) 512) (i19 : vp_in (I 26 10) 512) (i29 : vp_in (I 26 10) 512) : mm_Run l X 119 d 0 [.ref 26, .int x1, .int x2, .long x3, .null] [] (mm_Λ, I, J) mc ms (.inl none) (mm_Λ, (mm_set (mm_set (mm_set I 35 (I 26 10).toNatClampNeg x1) 36 (I 26 10).toNatClampNeg x2) 26 10 ((I 26 10) + 1)), (mm_set J 37 (I 26 10).toNatClampNeg x3)) := by
  refine mm_aload_n (v := .ref 26) d119_0 rfl (Or.inl ⟨_, rfl⟩) ?_
  refine mm_getfield (v := .ref 35) d119_1 okc9 fk119_35 rfl rfl (by nofun) ?_
  refine mm_aload_n (v := .ref 26) d119_4 rfl (Or.inl ⟨_, rfl⟩) ?_
  refine mm_getfield (v := .int (I 26 10)) d119_5 okc9 fk119_114 rfl rfl (by nofun) ?_
  refine mm_iload_n d119_8 rfl ?_
  refine mm_iastore d119_9 rfl i9 ?_
  refine mm_aload_n (v := .ref 26) d119_10 rfl (Or.inl ⟨_, rfl⟩) ?_
  refine mm_getfield (v := .ref 36) d119_11 okc9 fk119_38 rfl rfl (by nofun) ?_
  refine mm_aload_n (v := .ref 26) d119_14 rfl (Or.inl ⟨_, rfl⟩) ?_
  refine mm_getfield (v := .int (I 26 10)) d119_15 okc9 fk119_114 rfl rfl (by nofun) ?_
  refine mm_iload_n d119_18 rfl ?_
  refine mm_iastore d119_19 rfl i19 ?_
  refine mm_aload_n (v := .ref 26) d119_20 rfl (Or.inl ⟨_, rfl⟩) ?_
  refine mm_getfield (v := .ref 37) d119_21 okc9 fk119_41 rfl rfl (by nofun) ?_
  refine mm_aload_n (v := .ref 26) d119_24 rfl (Or.inl ⟨_, rfl⟩) ?_
  refine mm_getfield (v := .int (I 26 10)) d119_25 okc9 fk119_114 rfl rfl (by nofun) ?_
  refine mm_lload_n d119_28 rfl ?_
  refine mm_lastore d119_29 rfl i29 ?_
  refine mm_aload_n (v := .ref 26) d119_30 rfl (Or.inl ⟨_, rfl⟩) ?_
  refine mm_dup d119_31 rfl ?_
  refine mm_getfield (v := .int (I 26 10)) d119_32 okc9 fk119_114 rfl rfl (by nofun) ?_
  refine mm_ic d119_35 ci1 ?_
  refine mm_iadd d119_36 ?_
  refine mm_putfield d119_37 okc9 fk119_114 fp119_114 rfl rfl rfl ?_
  exact mm_vreturn d119_40 rfl
