/-! ===== the law's loop ===== -/
theorem b145_23 {l : Launch} {X : Nat × (Nat → Int32)} {d : Nat} {I : Nat → Nat → Int32} {J : Nat → Nat → Int64} {x4 : Int32} {mc ms : Nat} {o : mm_O} {σ' : mm_S} (kt : ((Int32.ofNat X.1) - 6) < x4 → mm_Run l X 145 (d + 1) 978 [.retAddr 0, .ref 0, .ref 26, .ref 45, .int x4, .null, .null, .null] [] (mm_Λ, I, J) mc ms o σ') (kf : ¬ (((Int32.ofNat X.1) - 6) < x4) → mm_Run l X 145 (d + 1) 33 [.retAddr 0, .ref 0, .ref 26, .ref 45, .int x4, .null, .null, .null] [] (mm_Λ, I, J) mc ms o σ') : mm_Run l X 145 (d + 1) 23 [.retAddr 0, .ref 0, .ref 26, .ref 45, .int x4, .null, .null, .null] [] (mm_Λ, I, J) mc ms o σ' := by
  refine mm_iload d145_23 rfl ?_
  refine mm_aload_n (v := .retAddr 0) d145_25 rfl (Or.inr ⟨_, rfl⟩) ?_
  refine mm_sclen d145_26 ?_
  refine mm_bi d145_27 cb6 ?_
  refine mm_isub d145_29 ?_
  refine mm_icmp (tgt := 978) d145_30 (by decide) (fun h => ?_) (fun h => ?_)
  · exact kt h
  · exact kf h
theorem b145_33 {l : Launch} {X : Nat × (Nat → Int32)} {d : Nat} {I : Nat → Nat → Int32} {J : Nat → Nat → Int64} {x4 : Int32} {mc ms : Nat} {o : mm_O} {σ' : mm_S} (i36 : vp_in x4 X.1) (hr : mm_Run l X 145 (d + 1) 40 [.retAddr 0, .ref 0, .ref 26, .ref 45, .int x4, .null, .null, .null] [.int ((X.2 x4.toNatClampNeg) &&& 15)] (mm_Λ, I, J) mc ms o σ') : mm_Run l X 145 (d + 1) 33 [.retAddr 0, .ref 0, .ref 26, .ref 45, .int x4, .null, .null, .null] [] (mm_Λ, I, J) mc ms o σ' := by
  refine mm_aload_n (v := .retAddr 0) d145_33 rfl (Or.inr ⟨_, rfl⟩) ?_
  refine mm_iload d145_34 rfl ?_
  refine mm_scload d145_36 i36 ?_
  refine mm_bi d145_37 cb15 ?_
  refine mm_iand d145_39 ?_
  exact hr
theorem b145_112 {l : Launch} {X : Nat × (Nat → Int32)} {d : Nat} {mc ms : Nat} {I : Nat → Nat → Int32} {J : Nat → Nat → Int64} {x4 : Int32} {o : mm_O} {σ' : mm_S} (i118 : vp_in (x4 + 1) X.1) (i124 : vp_in (x4 + 2) X.1) (i130 : vp_in (x4 + 3) X.1) (i136 : vp_in (x4 + 4) X.1) (i142 : vp_in (x4 + 5) X.1) {r : Int32} {I1 : Nat → Nat → Int32} {J1 : Nat → Nat → Int64} {mc1 ms1 : Nat} (hcall : mm_Call l X 15 d [.ref 0, .int (X.2 (x4 + 1).toNatClampNeg), .int (X.2 (x4 + 2).toNatClampNeg), .int (X.2 (x4 + 3).toNatClampNeg), .int (X.2 (x4 + 4).toNatClampNeg), .int (X.2 (x4 + 5).toNatClampNeg), .ref 45] (mm_Λ, I, J) mc1 ms1 (.inl (some (.int r))) (mm_Λ, I1, J1)) (hr : mm_Run l X 145 (d + 1) 147 [.retAddr 0, .ref 0, .ref 26, .ref 45, .int x4, .null, .null, .null] [.int r] (mm_Λ, I1, J1) mc ms o σ') : mm_Run l X 145 (d + 1) 112 [.retAddr 0, .ref 0, .ref 26, .ref 45, .int x4, .null, .null, .null] [] (mm_Λ, I, J) (mc1 + mc) (ms1 + ms) o σ' := by
  refine mm_aload_n (v := .ref 0) d145_112 rfl (Or.inl ⟨_, rfl⟩) ?_
  refine mm_aload_n (v := .retAddr 0) d145_113 rfl (Or.inr ⟨_, rfl⟩) ?_
  refine mm_iload d145_114 rfl ?_
  refine mm_ic d145_116 ci1 ?_
  refine mm_iadd d145_117 ?_
  refine mm_scload d145_118 i118 ?_
  refine mm_aload_n (v := .retAddr 0) d145_119 rfl (Or.inr ⟨_, rfl⟩) ?_
  refine mm_iload d145_120 rfl ?_
  refine mm_ic d145_122 ci2 ?_
  refine mm_iadd d145_123 ?_
  refine mm_scload d145_124 i124 ?_
  refine mm_aload_n (v := .retAddr 0) d145_125 rfl (Or.inr ⟨_, rfl⟩) ?_
  refine mm_iload d145_126 rfl ?_
  refine mm_ic d145_128 ci3 ?_
  refine mm_iadd d145_129 ?_
  refine mm_scload d145_130 i130 ?_
  refine mm_aload_n (v := .retAddr 0) d145_131 rfl (Or.inr ⟨_, rfl⟩) ?_
  refine mm_iload d145_132 rfl ?_
  refine mm_ic d145_134 ci4 ?_
  refine mm_iadd d145_135 ?_
  refine mm_scload d145_136 i136 ?_
  refine mm_aload_n (v := .retAddr 0) d145_137 rfl (Or.inr ⟨_, rfl⟩) ?_
  refine mm_iload d145_138 rfl ?_
  refine mm_ic d145_140 ci5 ?_
  refine mm_iadd d145_141 ?_
  refine mm_scload d145_142 i142 ?_
  refine mm_aload_n (v := .ref 45) d145_143 rfl (Or.inl ⟨_, rfl⟩) ?_
  exact mm_callSW (n := 7) (mc1 := mc1) (ms1 := ms1) (as := [.ref 0, .int (X.2 (x4 + 1).toNatClampNeg), .int (X.2 (x4 + 2).toNatClampNeg), .int (X.2 (x4 + 3).toNatClampNeg), .int (X.2 (x4 + 4).toNatClampNeg), .int (X.2 (x4 + 5).toNatClampNeg), .ref 45]) (S := []) d145_144 cw15 mw5 mw6 (by decide +kernel) (by decide +kernel) isw15 ln145_55 st15 rfl rfl (Nat.le_of_ble_eq_true rfl) (Nat.le_of_ble_eq_true rfl) hcall hr
theorem b145_147 {l : Launch} {X : Nat × (Nat → Int32)} {d : Nat} {I : Nat → Nat → Int32} {J : Nat → Nat → Int64} {x4 : Int32} {s0 : Int32} {mc ms : Nat} {o : mm_O} {σ' : mm_S} (i155 : vp_in (x4 + 1) X.1) (i161 : vp_in (x4 + 2) X.1) (i167 : vp_in (x4 + 3) X.1) (i173 : vp_in (x4 + 4) X.1) (i179 : vp_in (x4 + 5) X.1) {r : Int32} {I1 : Nat → Nat → Int32} {J1 : Nat → Nat → Int64} (hcall : mm_Call l X 101 d [.ref 26, .int (X.2 (x4 + 1).toNatClampNeg), .int (X.2 (x4 + 2).toNatClampNeg), .int (X.2 (x4 + 3).toNatClampNeg), .int (X.2 (x4 + 4).toNatClampNeg), .int (X.2 (x4 + 5).toNatClampNeg)] (mm_Λ, I, J) 0 0 (.inl (some (.int r))) (mm_Λ, I1, J1)) (hr : mm_Run l X 145 (d + 1) 183 [.retAddr 0, .ref 0, .ref 26, .ref 45, .int x4, .int s0, .null, .null] [.int r] (mm_Λ, I1, J1) mc ms o σ') : mm_Run l X 145 (d + 1) 147 [.retAddr 0, .ref 0, .ref 26, .ref 45, .int x4, .null, .null, .null] [.int s0] (mm_Λ, I, J) mc ms o σ' := by
  refine mm_istore d145_147 (by decide +kernel) ?_
  refine mm_aload_n (v := .ref 26) d145_149 rfl (Or.inl ⟨_, rfl⟩) ?_
  refine mm_aload_n (v := .retAddr 0) d145_150 rfl (Or.inr ⟨_, rfl⟩) ?_
  refine mm_iload d145_151 rfl ?_
  refine mm_ic d145_153 ci1 ?_
  refine mm_iadd d145_154 ?_
  refine mm_scload d145_155 i155 ?_
  refine mm_aload_n (v := .retAddr 0) d145_156 rfl (Or.inr ⟨_, rfl⟩) ?_
  refine mm_iload d145_157 rfl ?_
  refine mm_ic d145_159 ci2 ?_
  refine mm_iadd d145_160 ?_
  refine mm_scload d145_161 i161 ?_
  refine mm_aload_n (v := .retAddr 0) d145_162 rfl (Or.inr ⟨_, rfl⟩) ?_
  refine mm_iload d145_163 rfl ?_
  refine mm_ic d145_165 ci3 ?_
  refine mm_iadd d145_166 ?_
  refine mm_scload d145_167 i167 ?_
  refine mm_aload_n (v := .retAddr 0) d145_168 rfl (Or.inr ⟨_, rfl⟩) ?_
  refine mm_iload d145_169 rfl ?_
  refine mm_ic d145_171 ci4 ?_
  refine mm_iadd d145_172 ?_
  refine mm_scload d145_173 i173 ?_
  refine mm_aload_n (v := .retAddr 0) d145_174 rfl (Or.inr ⟨_, rfl⟩) ?_
  refine mm_iload d145_175 rfl ?_
  refine mm_ic d145_177 ci5 ?_
  refine mm_iadd d145_178 ?_
  refine mm_scload d145_179 i179 ?_
  exact mm_callV0 (as := [.int (X.2 (x4 + 1).toNatClampNeg), .int (X.2 (x4 + 2).toNatClampNeg), .int (X.2 (x4 + 3).toNatClampNeg), .int (X.2 (x4 + 4).toNatClampNeg), .int (X.2 (x4 + 5).toNatClampNeg)]) (S := []) d145_180 okm101 ln145_60 im101 se101 rfl ⟨_, _, rfl⟩ rfl rfl (Nat.le_of_ble_eq_true rfl) (Nat.le_of_ble_eq_true rfl) hcall hr
theorem b145_183 {l : Launch} {X : Nat × (Nat → Int32)} {d : Nat} {I : Nat → Nat → Int32} {J : Nat → Nat → Int64} {x4 : Int32} {x5 : Int32} {s0 : Int32} {mc ms : Nat} {o : mm_O} {σ' : mm_S} {r : Int32} {I1 : Nat → Nat → Int32} {J1 : Nat → Nat → Int64} (hcall : mm_Call l X 100 d [.ref 26] (mm_Λ, I, J) 0 0 (.inl (some (.int r))) (mm_Λ, I1, J1)) (hr : mm_Run l X 145 (d + 1) 189 [.retAddr 0, .ref 0, .ref 26, .ref 45, .int x4, .int x5, .int s0, .null] [.int r] (mm_Λ, I1, J1) mc ms o σ') : mm_Run l X 145 (d + 1) 183 [.retAddr 0, .ref 0, .ref 26, .ref 45, .int x4, .int x5, .null, .null] [.int s0] (mm_Λ, I, J) mc ms o σ' := by
  refine mm_istore d145_183 (by decide +kernel) ?_
  refine mm_aload_n (v := .ref 26) d145_185 rfl (Or.inl ⟨_, rfl⟩) ?_
  exact mm_callV0 (as := []) (S := []) d145_186 okm100 ln145_61 im100 se100 rfl ⟨_, _, rfl⟩ rfl rfl (Nat.le_of_ble_eq_true rfl) (Nat.le_of_ble_eq_true rfl) hcall hr
theorem b145_189 {l : Launch} {X : Nat × (Nat → Int32)} {d : Nat} {I : Nat → Nat → Int32} {J : Nat → Nat → Int64} {x4 : Int32} {x5 : Int32} {x6 : Int32} {s0 : Int32} {mc ms : Nat} {o : mm_O} {σ' : mm_S} (kt : s0 = x5 → mm_Run l X 145 (d + 1) 196 [.retAddr 0, .ref 0, .ref 26, .ref 45, .int x4, .int x5, .int x6, .null] [] (mm_Λ, I, J) mc ms o σ') (kf : ¬ (s0 = x5) → mm_Run l X 145 (d + 1) 194 [.retAddr 0, .ref 0, .ref 26, .ref 45, .int x4, .int x5, .int x6, .null] [] (mm_Λ, I, J) mc ms o σ') : mm_Run l X 145 (d + 1) 189 [.retAddr 0, .ref 0, .ref 26, .ref 45, .int x4, .int x5, .int x6, .null] [.int s0] (mm_Λ, I, J) mc ms o σ' := by
  refine mm_iload d145_189 rfl ?_
  refine mm_icmp (tgt := 196) d145_191 (by decide) (fun h => ?_) (fun h => ?_)
  · exact kt h
  · exact kf h
theorem b145_194 {l : Launch} {X : Nat × (Nat → Int32)} {d : Nat} {I : Nat → Nat → Int32} {J : Nat → Nat → Int64} {x4 : Int32} {x5 : Int32} {x6 : Int32} {mc ms : Nat}  : mm_Run l X 145 (d + 1) 194 [.retAddr 0, .ref 0, .ref 26, .ref 45, .int x4, .int x5, .int x6, .null] [] (mm_Λ, I, J) mc ms (.inl (some (.int 0))) (mm_Λ, I, J) := by
  refine mm_ic d145_194 ci0 ?_
  exact mm_zreturn d145_195 rfl (by decide)
theorem b145_196 {l : Launch} {X : Nat × (Nat → Int32)} {d : Nat} {I : Nat → Nat → Int32} {J : Nat → Nat → Int64} {x4 : Int32} {x5 : Int32} {x6 : Int32} {mc ms : Nat} {o : mm_O} {σ' : mm_S} (kt : ¬ x5 = 0 → mm_Run l X 145 (d + 1) 213 [.retAddr 0, .ref 0, .ref 26, .ref 45, .int x4, .int x5, .int x6, .null] [] (mm_Λ, I, J) mc ms o σ') (kf : ¬ (¬ x5 = 0) → mm_Run l X 145 (d + 1) 201 [.retAddr 0, .ref 0, .ref 26, .ref 45, .int x4, .int x5, .int x6, .null] [] (mm_Λ, I, J) mc ms o σ') : mm_Run l X 145 (d + 1) 196 [.retAddr 0, .ref 0, .ref 26, .ref 45, .int x4, .int x5, .int x6, .null] [] (mm_Λ, I, J) mc ms o σ' := by
  refine mm_iload d145_196 rfl ?_
  refine mm_if (tgt := 213) d145_198 (by decide) (fun h => ?_) (fun h => ?_)
  · exact kt h
  · exact kf h
theorem b145_201 {l : Launch} {X : Nat × (Nat → Int32)} {d : Nat} {I : Nat → Nat → Int32} {J : Nat → Nat → Int64} {x4 : Int32} {x5 : Int32} {x6 : Int32} {mc ms : Nat} {o : mm_O} {σ' : mm_S} (kt : (lg_cmp (J 45 0) (x6.toInt64)) = 0 → mm_Run l X 145 (d + 1) 213 [.retAddr 0, .ref 0, .ref 26, .ref 45, .int x4, .int x5, .int x6, .null] [] (mm_Λ, I, J) mc ms o σ') (kf : ¬ ((lg_cmp (J 45 0) (x6.toInt64)) = 0) → mm_Run l X 145 (d + 1) 211 [.retAddr 0, .ref 0, .ref 26, .ref 45, .int x4, .int x5, .int x6, .null] [] (mm_Λ, I, J) mc ms o σ') : mm_Run l X 145 (d + 1) 201 [.retAddr 0, .ref 0, .ref 26, .ref 45, .int x4, .int x5, .int x6, .null] [] (mm_Λ, I, J) mc ms o σ' := by
  refine mm_aload_n (v := .ref 45) d145_201 rfl (Or.inl ⟨_, rfl⟩) ?_
  refine mm_ic d145_202 ci0 ?_
  refine mm_laload d145_203 rfl (by unfold vp_in; decide) ?_
  refine mm_iload d145_204 rfl ?_
  refine mm_i2l d145_206 ?_
  refine mm_lcmp d145_207 ?_
  refine mm_if (tgt := 213) d145_208 (by decide) (fun h => ?_) (fun h => ?_)
  · exact kt h
  · exact kf h
theorem b145_211 {l : Launch} {X : Nat × (Nat → Int32)} {d : Nat} {I : Nat → Nat → Int32} {J : Nat → Nat → Int64} {x4 : Int32} {x5 : Int32} {x6 : Int32} {mc ms : Nat}  : mm_Run l X 145 (d + 1) 211 [.retAddr 0, .ref 0, .ref 26, .ref 45, .int x4, .int x5, .int x6, .null] [] (mm_Λ, I, J) mc ms (.inl (some (.int 0))) (mm_Λ, I, J) := by
  refine mm_ic d145_211 ci0 ?_
  exact mm_zreturn d145_212 rfl (by decide)
theorem b145_213 {l : Launch} {X : Nat × (Nat → Int32)} {d : Nat} {I : Nat → Nat → Int32} {J : Nat → Nat → Int64} {x4 : Int32} {x5 : Int32} {x6 : Int32} {mc ms : Nat} {o : mm_O} {σ' : mm_S} (hr : mm_Run l X 145 (d + 1) 972 [.retAddr 0, .ref 0, .ref 26, .ref 45, .int x4, .null, .null, .null] [] (mm_Λ, I, J) mc ms o σ') : mm_Run l X 145 (d + 1) 213 [.retAddr 0, .ref 0, .ref 26, .ref 45, .int x4, .int x5, .int x6, .null] [] (mm_Λ, I, J) mc ms o σ' := by
  refine mm_goto (tgt := 972) d145_213 (by decide) ?_
  exact mm_forget hr (by exact ⟨rfl, rfl, rfl, rfl, rfl, trivial⟩)
theorem b145_216 {l : Launch} {X : Nat × (Nat → Int32)} {d : Nat} {mc ms : Nat} {I : Nat → Nat → Int32} {J : Nat → Nat → Int64} {x4 : Int32} {o : mm_O} {σ' : mm_S} (i222 : vp_in (x4 + 1) X.1) (i228 : vp_in (x4 + 2) X.1) {r : Int32} {I1 : Nat → Nat → Int32} {J1 : Nat → Nat → Int64} {mc1 ms1 : Nat} (hcall : mm_Call l X 35 d [.ref 0, .int (X.2 (x4 + 1).toNatClampNeg), .int (X.2 (x4 + 2).toNatClampNeg), .ref 45] (mm_Λ, I, J) mc1 ms1 (.inl (some (.int r))) (mm_Λ, I1, J1)) (hr : mm_Run l X 145 (d + 1) 233 [.retAddr 0, .ref 0, .ref 26, .ref 45, .int x4, .null, .null, .null] [.int r] (mm_Λ, I1, J1) mc ms o σ') : mm_Run l X 145 (d + 1) 216 [.retAddr 0, .ref 0, .ref 26, .ref 45, .int x4, .null, .null, .null] [] (mm_Λ, I, J) (mc1 + mc) (ms1 + ms) o σ' := by
  refine mm_aload_n (v := .ref 0) d145_216 rfl (Or.inl ⟨_, rfl⟩) ?_
  refine mm_aload_n (v := .retAddr 0) d145_217 rfl (Or.inr ⟨_, rfl⟩) ?_
  refine mm_iload d145_218 rfl ?_
  refine mm_ic d145_220 ci1 ?_
  refine mm_iadd d145_221 ?_
  refine mm_scload d145_222 i222 ?_
  refine mm_aload_n (v := .retAddr 0) d145_223 rfl (Or.inr ⟨_, rfl⟩) ?_
  refine mm_iload d145_224 rfl ?_
  refine mm_ic d145_226 ci2 ?_
  refine mm_iadd d145_227 ?_
  refine mm_scload d145_228 i228 ?_
  refine mm_aload_n (v := .ref 45) d145_229 rfl (Or.inl ⟨_, rfl⟩) ?_
  exact mm_callSW (n := 4) (mc1 := mc1) (ms1 := ms1) (as := [.ref 0, .int (X.2 (x4 + 1).toNatClampNeg), .int (X.2 (x4 + 2).toNatClampNeg), .ref 45]) (S := []) d145_230 cw35 mw5 mw6 (by decide +kernel) (by decide +kernel) isw35 ln145_65 st35 rfl rfl (Nat.le_of_ble_eq_true rfl) (Nat.le_of_ble_eq_true rfl) hcall hr
theorem b145_233 {l : Launch} {X : Nat × (Nat → Int32)} {d : Nat} {I : Nat → Nat → Int32} {J : Nat → Nat → Int64} {x4 : Int32} {s0 : Int32} {mc ms : Nat} {o : mm_O} {σ' : mm_S} (i241 : vp_in (x4 + 1) X.1) (i247 : vp_in (x4 + 2) X.1) {r : Int64} {I1 : Nat → Nat → Int32} {J1 : Nat → Nat → Int64} (hcall : mm_Call l X 103 d [.ref 26, .int (X.2 (x4 + 1).toNatClampNeg), .int (X.2 (x4 + 2).toNatClampNeg)] (mm_Λ, I, J) 0 0 (.inl (some (.long r))) (mm_Λ, I1, J1)) (hr : mm_Run l X 145 (d + 1) 251 [.retAddr 0, .ref 0, .ref 26, .ref 45, .int x4, .int s0, .null, .null] [.long r] (mm_Λ, I1, J1) mc ms o σ') : mm_Run l X 145 (d + 1) 233 [.retAddr 0, .ref 0, .ref 26, .ref 45, .int x4, .null, .null, .null] [.int s0] (mm_Λ, I, J) mc ms o σ' := by
  refine mm_istore d145_233 (by decide +kernel) ?_
  refine mm_aload_n (v := .ref 26) d145_235 rfl (Or.inl ⟨_, rfl⟩) ?_
  refine mm_aload_n (v := .retAddr 0) d145_236 rfl (Or.inr ⟨_, rfl⟩) ?_
  refine mm_iload d145_237 rfl ?_
  refine mm_ic d145_239 ci1 ?_
  refine mm_iadd d145_240 ?_
  refine mm_scload d145_241 i241 ?_
  refine mm_aload_n (v := .retAddr 0) d145_242 rfl (Or.inr ⟨_, rfl⟩) ?_
  refine mm_iload d145_243 rfl ?_
  refine mm_ic d145_245 ci2 ?_
  refine mm_iadd d145_246 ?_
  refine mm_scload d145_247 i247 ?_
  exact mm_callV0 (as := [.int (X.2 (x4 + 1).toNatClampNeg), .int (X.2 (x4 + 2).toNatClampNeg)]) (S := []) d145_248 okm103 ln145_68 im103 se103 rfl ⟨_, _, rfl⟩ rfl rfl (Nat.le_of_ble_eq_true rfl) (Nat.le_of_ble_eq_true rfl) hcall hr
theorem b145_251 {l : Launch} {X : Nat × (Nat → Int32)} {d : Nat} {I : Nat → Nat → Int32} {J : Nat → Nat → Int64} {x4 : Int32} {x5 : Int32} {s0 : Int64} {mc ms : Nat} {o : mm_O} {σ' : mm_S} {r : Int32} {I1 : Nat → Nat → Int32} {J1 : Nat → Nat → Int64} (hcall : mm_Call l X 100 d [.ref 26] (mm_Λ, I, J) 0 0 (.inl (some (.int r))) (mm_Λ, I1, J1)) (hr : mm_Run l X 145 (d + 1) 257 [.retAddr 0, .ref 0, .ref 26, .ref 45, .int x4, .int x5, .long s0, .null] [.int r] (mm_Λ, I1, J1) mc ms o σ') : mm_Run l X 145 (d + 1) 251 [.retAddr 0, .ref 0, .ref 26, .ref 45, .int x4, .int x5, .null, .null] [.long s0] (mm_Λ, I, J) mc ms o σ' := by
  refine mm_lstore d145_251 (by decide +kernel) ?_
  refine mm_aload_n (v := .ref 26) d145_253 rfl (Or.inl ⟨_, rfl⟩) ?_
  exact mm_callV0 (as := []) (S := []) d145_254 okm100 ln145_61 im100 se100 rfl ⟨_, _, rfl⟩ rfl rfl (Nat.le_of_ble_eq_true rfl) (Nat.le_of_ble_eq_true rfl) hcall hr
theorem b145_257 {l : Launch} {X : Nat × (Nat → Int32)} {d : Nat} {I : Nat → Nat → Int32} {J : Nat → Nat → Int64} {x4 : Int32} {x5 : Int32} {x6 : Int64} {s0 : Int32} {mc ms : Nat} {o : mm_O} {σ' : mm_S} (kt : s0 = x5 → mm_Run l X 145 (d + 1) 264 [.retAddr 0, .ref 0, .ref 26, .ref 45, .int x4, .int x5, .long x6, .null] [] (mm_Λ, I, J) mc ms o σ') (kf : ¬ (s0 = x5) → mm_Run l X 145 (d + 1) 262 [.retAddr 0, .ref 0, .ref 26, .ref 45, .int x4, .int x5, .long x6, .null] [] (mm_Λ, I, J) mc ms o σ') : mm_Run l X 145 (d + 1) 257 [.retAddr 0, .ref 0, .ref 26, .ref 45, .int x4, .int x5, .long x6, .null] [.int s0] (mm_Λ, I, J) mc ms o σ' := by
  refine mm_iload d145_257 rfl ?_
  refine mm_icmp (tgt := 264) d145_259 (by decide) (fun h => ?_) (fun h => ?_)
  · exact kt h
  · exact kf h
theorem b145_262 {l : Launch} {X : Nat × (Nat → Int32)} {d : Nat} {I : Nat → Nat → Int32} {J : Nat → Nat → Int64} {x4 : Int32} {x5 : Int32} {x6 : Int64} {mc ms : Nat}  : mm_Run l X 145 (d + 1) 262 [.retAddr 0, .ref 0, .ref 26, .ref 45, .int x4, .int x5, .long x6, .null] [] (mm_Λ, I, J) mc ms (.inl (some (.int 0))) (mm_Λ, I, J) := by
  refine mm_ic d145_262 ci0 ?_
  exact mm_zreturn d145_263 rfl (by decide)
theorem b145_264 {l : Launch} {X : Nat × (Nat → Int32)} {d : Nat} {I : Nat → Nat → Int32} {J : Nat → Nat → Int64} {x4 : Int32} {x5 : Int32} {x6 : Int64} {mc ms : Nat} {o : mm_O} {σ' : mm_S} (kt : ¬ x5 = 0 → mm_Run l X 145 (d + 1) 280 [.retAddr 0, .ref 0, .ref 26, .ref 45, .int x4, .int x5, .long x6, .null] [] (mm_Λ, I, J) mc ms o σ') (kf : ¬ (¬ x5 = 0) → mm_Run l X 145 (d + 1) 269 [.retAddr 0, .ref 0, .ref 26, .ref 45, .int x4, .int x5, .long x6, .null] [] (mm_Λ, I, J) mc ms o σ') : mm_Run l X 145 (d + 1) 264 [.retAddr 0, .ref 0, .ref 26, .ref 45, .int x4, .int x5, .long x6, .null] [] (mm_Λ, I, J) mc ms o σ' := by
  refine mm_iload d145_264 rfl ?_
  refine mm_if (tgt := 280) d145_266 (by decide) (fun h => ?_) (fun h => ?_)
  · exact kt h
  · exact kf h
theorem b145_269 {l : Launch} {X : Nat × (Nat → Int32)} {d : Nat} {I : Nat → Nat → Int32} {J : Nat → Nat → Int64} {x4 : Int32} {x5 : Int32} {x6 : Int64} {mc ms : Nat} {o : mm_O} {σ' : mm_S} (kt : (lg_cmp (J 45 0) x6) = 0 → mm_Run l X 145 (d + 1) 280 [.retAddr 0, .ref 0, .ref 26, .ref 45, .int x4, .int x5, .long x6, .null] [] (mm_Λ, I, J) mc ms o σ') (kf : ¬ ((lg_cmp (J 45 0) x6) = 0) → mm_Run l X 145 (d + 1) 278 [.retAddr 0, .ref 0, .ref 26, .ref 45, .int x4, .int x5, .long x6, .null] [] (mm_Λ, I, J) mc ms o σ') : mm_Run l X 145 (d + 1) 269 [.retAddr 0, .ref 0, .ref 26, .ref 45, .int x4, .int x5, .long x6, .null] [] (mm_Λ, I, J) mc ms o σ' := by
  refine mm_aload_n (v := .ref 45) d145_269 rfl (Or.inl ⟨_, rfl⟩) ?_
  refine mm_ic d145_270 ci0 ?_
  refine mm_laload d145_271 rfl (by unfold vp_in; decide) ?_
  refine mm_lload d145_272 rfl ?_
  refine mm_lcmp d145_274 ?_
  refine mm_if (tgt := 280) d145_275 (by decide) (fun h => ?_) (fun h => ?_)
  · exact kt h
  · exact kf h
theorem b145_278 {l : Launch} {X : Nat × (Nat → Int32)} {d : Nat} {I : Nat → Nat → Int32} {J : Nat → Nat → Int64} {x4 : Int32} {x5 : Int32} {x6 : Int64} {mc ms : Nat}  : mm_Run l X 145 (d + 1) 278 [.retAddr 0, .ref 0, .ref 26, .ref 45, .int x4, .int x5, .long x6, .null] [] (mm_Λ, I, J) mc ms (.inl (some (.int 0))) (mm_Λ, I, J) := by
  refine mm_ic d145_278 ci0 ?_
  exact mm_zreturn d145_279 rfl (by decide)
theorem b145_280 {l : Launch} {X : Nat × (Nat → Int32)} {d : Nat} {I : Nat → Nat → Int32} {J : Nat → Nat → Int64} {x4 : Int32} {x5 : Int32} {x6 : Int64} {mc ms : Nat} {o : mm_O} {σ' : mm_S} (hr : mm_Run l X 145 (d + 1) 972 [.retAddr 0, .ref 0, .ref 26, .ref 45, .int x4, .null, .null, .null] [] (mm_Λ, I, J) mc ms o σ') : mm_Run l X 145 (d + 1) 280 [.retAddr 0, .ref 0, .ref 26, .ref 45, .int x4, .int x5, .long x6, .null] [] (mm_Λ, I, J) mc ms o σ' := by
  refine mm_goto (tgt := 972) d145_280 (by decide) ?_
  exact mm_forget hr (by exact ⟨rfl, rfl, rfl, rfl, rfl, trivial⟩)
theorem b145_283 {l : Launch} {X : Nat × (Nat → Int32)} {d : Nat} {mc ms : Nat} {I : Nat → Nat → Int32} {J : Nat → Nat → Int64} {x4 : Int32} {o : mm_O} {σ' : mm_S} (i289 : vp_in (x4 + 1) X.1) (i295 : vp_in (x4 + 2) X.1) (i301 : vp_in (x4 + 3) X.1) (i311 : vp_in (x4 + 4) X.1) {r : Int32} {I1 : Nat → Nat → Int32} {J1 : Nat → Nat → Int64} {mc1 ms1 : Nat} (hcall : mm_Call l X 38 d [.ref 0, .int (X.2 (x4 + 1).toNatClampNeg), .int (X.2 (x4 + 2).toNatClampNeg), .long ((((X.2 (x4 + 3).toNatClampNeg).toInt64) <<< ((32 : Int32).toInt64 &&& 63)) ||| (((X.2 (x4 + 4).toNatClampNeg).toInt64) &&& 4294967295)), .ref 45] (mm_Λ, I, J) mc1 ms1 (.inl (some (.int r))) (mm_Λ, I1, J1)) (hr : mm_Run l X 145 (d + 1) 322 [.retAddr 0, .ref 0, .ref 26, .ref 45, .int x4, .null, .null, .null] [.int r] (mm_Λ, I1, J1) mc ms o σ') : mm_Run l X 145 (d + 1) 283 [.retAddr 0, .ref 0, .ref 26, .ref 45, .int x4, .null, .null, .null] [] (mm_Λ, I, J) (mc1 + mc) (ms1 + ms) o σ' := by
  refine mm_aload_n (v := .ref 0) d145_283 rfl (Or.inl ⟨_, rfl⟩) ?_
  refine mm_aload_n (v := .retAddr 0) d145_284 rfl (Or.inr ⟨_, rfl⟩) ?_
  refine mm_iload d145_285 rfl ?_
  refine mm_ic d145_287 ci1 ?_
  refine mm_iadd d145_288 ?_
  refine mm_scload d145_289 i289 ?_
  refine mm_aload_n (v := .retAddr 0) d145_290 rfl (Or.inr ⟨_, rfl⟩) ?_
  refine mm_iload d145_291 rfl ?_
  refine mm_ic d145_293 ci2 ?_
  refine mm_iadd d145_294 ?_
  refine mm_scload d145_295 i295 ?_
  refine mm_aload_n (v := .retAddr 0) d145_296 rfl (Or.inr ⟨_, rfl⟩) ?_
  refine mm_iload d145_297 rfl ?_
  refine mm_ic d145_299 ci3 ?_
  refine mm_iadd d145_300 ?_
  refine mm_scload d145_301 i301 ?_
  refine mm_i2l d145_302 ?_
  refine mm_bi d145_303 cb32 ?_
  refine mm_lshl d145_305 ?_
  refine mm_aload_n (v := .retAddr 0) d145_306 rfl (Or.inr ⟨_, rfl⟩) ?_
  refine mm_iload d145_307 rfl ?_
  refine mm_ic d145_309 ci4 ?_
  refine mm_iadd d145_310 ?_
  refine mm_scload d145_311 i311 ?_
  refine mm_i2l d145_312 ?_
  refine mm_ldc2 d145_313 kl145_69 ?_
  refine mm_land d145_316 ?_
  refine mm_lor d145_317 ?_
  refine mm_aload_n (v := .ref 45) d145_318 rfl (Or.inl ⟨_, rfl⟩) ?_
  exact mm_callSW (n := 5) (mc1 := mc1) (ms1 := ms1) (as := [.ref 0, .int (X.2 (x4 + 1).toNatClampNeg), .int (X.2 (x4 + 2).toNatClampNeg), .long ((((X.2 (x4 + 3).toNatClampNeg).toInt64) <<< ((32 : Int32).toInt64 &&& 63)) ||| (((X.2 (x4 + 4).toNatClampNeg).toInt64) &&& 4294967295)), .ref 45]) (S := []) d145_319 cw38 mw5 mw6 (by decide +kernel) (by decide +kernel) isw38 ln145_71 st38 rfl rfl (Nat.le_of_ble_eq_true rfl) (Nat.le_of_ble_eq_true rfl) hcall hr
theorem b145_322 {l : Launch} {X : Nat × (Nat → Int32)} {d : Nat} {I : Nat → Nat → Int32} {J : Nat → Nat → Int64} {x4 : Int32} {s0 : Int32} {mc ms : Nat} {o : mm_O} {σ' : mm_S} (i330 : vp_in (x4 + 1) X.1) (i336 : vp_in (x4 + 2) X.1) (i342 : vp_in (x4 + 3) X.1) (i352 : vp_in (x4 + 4) X.1) {r : Int32} {I1 : Nat → Nat → Int32} {J1 : Nat → Nat → Int64} (hcall : mm_Call l X 116 d [.ref 26, .int (X.2 (x4 + 1).toNatClampNeg), .int (X.2 (x4 + 2).toNatClampNeg), .long ((((X.2 (x4 + 3).toNatClampNeg).toInt64) <<< ((32 : Int32).toInt64 &&& 63)) ||| (((X.2 (x4 + 4).toNatClampNeg).toInt64) &&& 4294967295))] (mm_Λ, I, J) 0 0 (.inl (some (.int r))) (mm_Λ, I1, J1)) (hr : mm_Run l X 145 (d + 1) 362 [.retAddr 0, .ref 0, .ref 26, .ref 45, .int x4, .int s0, .null, .null] [.int r] (mm_Λ, I1, J1) mc ms o σ') : mm_Run l X 145 (d + 1) 322 [.retAddr 0, .ref 0, .ref 26, .ref 45, .int x4, .null, .null, .null] [.int s0] (mm_Λ, I, J) mc ms o σ' := by
  refine mm_istore d145_322 (by decide +kernel) ?_
  refine mm_aload_n (v := .ref 26) d145_324 rfl (Or.inl ⟨_, rfl⟩) ?_
  refine mm_aload_n (v := .retAddr 0) d145_325 rfl (Or.inr ⟨_, rfl⟩) ?_
  refine mm_iload d145_326 rfl ?_
  refine mm_ic d145_328 ci1 ?_
  refine mm_iadd d145_329 ?_
  refine mm_scload d145_330 i330 ?_
  refine mm_aload_n (v := .retAddr 0) d145_331 rfl (Or.inr ⟨_, rfl⟩) ?_
  refine mm_iload d145_332 rfl ?_
  refine mm_ic d145_334 ci2 ?_
  refine mm_iadd d145_335 ?_
  refine mm_scload d145_336 i336 ?_
  refine mm_aload_n (v := .retAddr 0) d145_337 rfl (Or.inr ⟨_, rfl⟩) ?_
  refine mm_iload d145_338 rfl ?_
  refine mm_ic d145_340 ci3 ?_
  refine mm_iadd d145_341 ?_
  refine mm_scload d145_342 i342 ?_
  refine mm_i2l d145_343 ?_
  refine mm_bi d145_344 cb32 ?_
  refine mm_lshl d145_346 ?_
  refine mm_aload_n (v := .retAddr 0) d145_347 rfl (Or.inr ⟨_, rfl⟩) ?_
  refine mm_iload d145_348 rfl ?_
  refine mm_ic d145_350 ci4 ?_
  refine mm_iadd d145_351 ?_
  refine mm_scload d145_352 i352 ?_
  refine mm_i2l d145_353 ?_
  refine mm_ldc2 d145_354 kl145_69 ?_
  refine mm_land d145_357 ?_
  refine mm_lor d145_358 ?_
  exact mm_callV0 (as := [.int (X.2 (x4 + 1).toNatClampNeg), .int (X.2 (x4 + 2).toNatClampNeg), .long ((((X.2 (x4 + 3).toNatClampNeg).toInt64) <<< ((32 : Int32).toInt64 &&& 63)) ||| (((X.2 (x4 + 4).toNatClampNeg).toInt64) &&& 4294967295))]) (S := []) d145_359 okm116 ln145_74 im116 se116 rfl ⟨_, _, rfl⟩ rfl rfl (Nat.le_of_ble_eq_true rfl) (Nat.le_of_ble_eq_true rfl) hcall hr
theorem b145_362 {l : Launch} {X : Nat × (Nat → Int32)} {d : Nat} {I : Nat → Nat → Int32} {J : Nat → Nat → Int64} {x4 : Int32} {x5 : Int32} {s0 : Int32} {mc ms : Nat} {o : mm_O} {σ' : mm_S} {r : Int32} {I1 : Nat → Nat → Int32} {J1 : Nat → Nat → Int64} (hcall : mm_Call l X 100 d [.ref 26] (mm_Λ, I, J) 0 0 (.inl (some (.int r))) (mm_Λ, I1, J1)) (hr : mm_Run l X 145 (d + 1) 368 [.retAddr 0, .ref 0, .ref 26, .ref 45, .int x4, .int x5, .int s0, .null] [.int r] (mm_Λ, I1, J1) mc ms o σ') : mm_Run l X 145 (d + 1) 362 [.retAddr 0, .ref 0, .ref 26, .ref 45, .int x4, .int x5, .null, .null] [.int s0] (mm_Λ, I, J) mc ms o σ' := by
  refine mm_istore d145_362 (by decide +kernel) ?_
  refine mm_aload_n (v := .ref 26) d145_364 rfl (Or.inl ⟨_, rfl⟩) ?_
  exact mm_callV0 (as := []) (S := []) d145_365 okm100 ln145_61 im100 se100 rfl ⟨_, _, rfl⟩ rfl rfl (Nat.le_of_ble_eq_true rfl) (Nat.le_of_ble_eq_true rfl) hcall hr
theorem b145_368 {l : Launch} {X : Nat × (Nat → Int32)} {d : Nat} {I : Nat → Nat → Int32} {J : Nat → Nat → Int64} {x4 : Int32} {x5 : Int32} {x6 : Int32} {s0 : Int32} {mc ms : Nat} {o : mm_O} {σ' : mm_S} (kt : s0 = x5 → mm_Run l X 145 (d + 1) 375 [.retAddr 0, .ref 0, .ref 26, .ref 45, .int x4, .int x5, .int x6, .null] [] (mm_Λ, I, J) mc ms o σ') (kf : ¬ (s0 = x5) → mm_Run l X 145 (d + 1) 373 [.retAddr 0, .ref 0, .ref 26, .ref 45, .int x4, .int x5, .int x6, .null] [] (mm_Λ, I, J) mc ms o σ') : mm_Run l X 145 (d + 1) 368 [.retAddr 0, .ref 0, .ref 26, .ref 45, .int x4, .int x5, .int x6, .null] [.int s0] (mm_Λ, I, J) mc ms o σ' := by
  refine mm_iload d145_368 rfl ?_
  refine mm_icmp (tgt := 375) d145_370 (by decide) (fun h => ?_) (fun h => ?_)
  · exact kt h
  · exact kf h
theorem b145_373 {l : Launch} {X : Nat × (Nat → Int32)} {d : Nat} {I : Nat → Nat → Int32} {J : Nat → Nat → Int64} {x4 : Int32} {x5 : Int32} {x6 : Int32} {mc ms : Nat}  : mm_Run l X 145 (d + 1) 373 [.retAddr 0, .ref 0, .ref 26, .ref 45, .int x4, .int x5, .int x6, .null] [] (mm_Λ, I, J) mc ms (.inl (some (.int 0))) (mm_Λ, I, J) := by
  refine mm_ic d145_373 ci0 ?_
  exact mm_zreturn d145_374 rfl (by decide)
theorem b145_375 {l : Launch} {X : Nat × (Nat → Int32)} {d : Nat} {I : Nat → Nat → Int32} {J : Nat → Nat → Int64} {x4 : Int32} {x5 : Int32} {x6 : Int32} {mc ms : Nat} {o : mm_O} {σ' : mm_S} (kt : ¬ x5 = 0 → mm_Run l X 145 (d + 1) 392 [.retAddr 0, .ref 0, .ref 26, .ref 45, .int x4, .int x5, .int x6, .null] [] (mm_Λ, I, J) mc ms o σ') (kf : ¬ (¬ x5 = 0) → mm_Run l X 145 (d + 1) 380 [.retAddr 0, .ref 0, .ref 26, .ref 45, .int x4, .int x5, .int x6, .null] [] (mm_Λ, I, J) mc ms o σ') : mm_Run l X 145 (d + 1) 375 [.retAddr 0, .ref 0, .ref 26, .ref 45, .int x4, .int x5, .int x6, .null] [] (mm_Λ, I, J) mc ms o σ' := by
  refine mm_iload d145_375 rfl ?_
  refine mm_if (tgt := 392) d145_377 (by decide) (fun h => ?_) (fun h => ?_)
  · exact kt h
  · exact kf h
theorem b145_380 {l : Launch} {X : Nat × (Nat → Int32)} {d : Nat} {I : Nat → Nat → Int32} {J : Nat → Nat → Int64} {x4 : Int32} {x5 : Int32} {x6 : Int32} {mc ms : Nat} {o : mm_O} {σ' : mm_S} (kt : (lg_cmp (J 45 0) (x6.toInt64)) = 0 → mm_Run l X 145 (d + 1) 392 [.retAddr 0, .ref 0, .ref 26, .ref 45, .int x4, .int x5, .int x6, .null] [] (mm_Λ, I, J) mc ms o σ') (kf : ¬ ((lg_cmp (J 45 0) (x6.toInt64)) = 0) → mm_Run l X 145 (d + 1) 390 [.retAddr 0, .ref 0, .ref 26, .ref 45, .int x4, .int x5, .int x6, .null] [] (mm_Λ, I, J) mc ms o σ') : mm_Run l X 145 (d + 1) 380 [.retAddr 0, .ref 0, .ref 26, .ref 45, .int x4, .int x5, .int x6, .null] [] (mm_Λ, I, J) mc ms o σ' := by
  refine mm_aload_n (v := .ref 45) d145_380 rfl (Or.inl ⟨_, rfl⟩) ?_
  refine mm_ic d145_381 ci0 ?_
  refine mm_laload d145_382 rfl (by unfold vp_in; decide) ?_
  refine mm_iload d145_383 rfl ?_
  refine mm_i2l d145_385 ?_
  refine mm_lcmp d145_386 ?_
  refine mm_if (tgt := 392) d145_387 (by decide) (fun h => ?_) (fun h => ?_)
  · exact kt h
  · exact kf h
theorem b145_390 {l : Launch} {X : Nat × (Nat → Int32)} {d : Nat} {I : Nat → Nat → Int32} {J : Nat → Nat → Int64} {x4 : Int32} {x5 : Int32} {x6 : Int32} {mc ms : Nat}  : mm_Run l X 145 (d + 1) 390 [.retAddr 0, .ref 0, .ref 26, .ref 45, .int x4, .int x5, .int x6, .null] [] (mm_Λ, I, J) mc ms (.inl (some (.int 0))) (mm_Λ, I, J) := by
  refine mm_ic d145_390 ci0 ?_
  exact mm_zreturn d145_391 rfl (by decide)
theorem b145_392 {l : Launch} {X : Nat × (Nat → Int32)} {d : Nat} {I : Nat → Nat → Int32} {J : Nat → Nat → Int64} {x4 : Int32} {x5 : Int32} {x6 : Int32} {mc ms : Nat} {o : mm_O} {σ' : mm_S} (hr : mm_Run l X 145 (d + 1) 972 [.retAddr 0, .ref 0, .ref 26, .ref 45, .int x4, .null, .null, .null] [] (mm_Λ, I, J) mc ms o σ') : mm_Run l X 145 (d + 1) 392 [.retAddr 0, .ref 0, .ref 26, .ref 45, .int x4, .int x5, .int x6, .null] [] (mm_Λ, I, J) mc ms o σ' := by
  refine mm_goto (tgt := 972) d145_392 (by decide) ?_
  exact mm_forget hr (by exact ⟨rfl, rfl, rfl, rfl, rfl, trivial⟩)
theorem b145_395 {l : Launch} {X : Nat × (Nat → Int32)} {d : Nat} {mc ms : Nat} {I : Nat → Nat → Int32} {J : Nat → Nat → Int64} {x4 : Int32} {o : mm_O} {σ' : mm_S} (i401 : vp_in (x4 + 1) X.1) (i407 : vp_in (x4 + 2) X.1) {r : Int32} {I1 : Nat → Nat → Int32} {J1 : Nat → Nat → Int64} {mc1 ms1 : Nat} (hcall : mm_Call l X 52 d [.ref 0, .int (X.2 (x4 + 1).toNatClampNeg), .int (X.2 (x4 + 2).toNatClampNeg), .ref 45] (mm_Λ, I, J) mc1 ms1 (.inl (some (.int r))) (mm_Λ, I1, J1)) (hr : mm_Run l X 145 (d + 1) 412 [.retAddr 0, .ref 0, .ref 26, .ref 45, .int x4, .null, .null, .null] [.int r] (mm_Λ, I1, J1) mc ms o σ') : mm_Run l X 145 (d + 1) 395 [.retAddr 0, .ref 0, .ref 26, .ref 45, .int x4, .null, .null, .null] [] (mm_Λ, I, J) (mc1 + mc) (ms1 + ms) o σ' := by
  refine mm_aload_n (v := .ref 0) d145_395 rfl (Or.inl ⟨_, rfl⟩) ?_
  refine mm_aload_n (v := .retAddr 0) d145_396 rfl (Or.inr ⟨_, rfl⟩) ?_
  refine mm_iload d145_397 rfl ?_
  refine mm_ic d145_399 ci1 ?_
  refine mm_iadd d145_400 ?_
  refine mm_scload d145_401 i401 ?_
  refine mm_aload_n (v := .retAddr 0) d145_402 rfl (Or.inr ⟨_, rfl⟩) ?_
  refine mm_iload d145_403 rfl ?_
  refine mm_ic d145_405 ci2 ?_
  refine mm_iadd d145_406 ?_
  refine mm_scload d145_407 i407 ?_
  refine mm_aload_n (v := .ref 45) d145_408 rfl (Or.inl ⟨_, rfl⟩) ?_
  exact mm_callSW (n := 4) (mc1 := mc1) (ms1 := ms1) (as := [.ref 0, .int (X.2 (x4 + 1).toNatClampNeg), .int (X.2 (x4 + 2).toNatClampNeg), .ref 45]) (S := []) d145_409 cw52 mw5 mw6 (by decide +kernel) (by decide +kernel) isw52 ln145_75 st52 rfl rfl (Nat.le_of_ble_eq_true rfl) (Nat.le_of_ble_eq_true rfl) hcall hr
theorem b145_412 {l : Launch} {X : Nat × (Nat → Int32)} {d : Nat} {I : Nat → Nat → Int32} {J : Nat → Nat → Int64} {x4 : Int32} {s0 : Int32} {mc ms : Nat} {o : mm_O} {σ' : mm_S} (i420 : vp_in (x4 + 1) X.1) (i426 : vp_in (x4 + 2) X.1) {r : Int64} {I1 : Nat → Nat → Int32} {J1 : Nat → Nat → Int64} (hcall : mm_Call l X 110 d [.ref 26, .int (X.2 (x4 + 1).toNatClampNeg), .int (X.2 (x4 + 2).toNatClampNeg)] (mm_Λ, I, J) 0 0 (.inl (some (.long r))) (mm_Λ, I1, J1)) (hr : mm_Run l X 145 (d + 1) 430 [.retAddr 0, .ref 0, .ref 26, .ref 45, .int x4, .int s0, .null, .null] [.long r] (mm_Λ, I1, J1) mc ms o σ') : mm_Run l X 145 (d + 1) 412 [.retAddr 0, .ref 0, .ref 26, .ref 45, .int x4, .null, .null, .null] [.int s0] (mm_Λ, I, J) mc ms o σ' := by
  refine mm_istore d145_412 (by decide +kernel) ?_
  refine mm_aload_n (v := .ref 26) d145_414 rfl (Or.inl ⟨_, rfl⟩) ?_
  refine mm_aload_n (v := .retAddr 0) d145_415 rfl (Or.inr ⟨_, rfl⟩) ?_
  refine mm_iload d145_416 rfl ?_
  refine mm_ic d145_418 ci1 ?_
  refine mm_iadd d145_419 ?_
  refine mm_scload d145_420 i420 ?_
  refine mm_aload_n (v := .retAddr 0) d145_421 rfl (Or.inr ⟨_, rfl⟩) ?_
  refine mm_iload d145_422 rfl ?_
  refine mm_ic d145_424 ci2 ?_
  refine mm_iadd d145_425 ?_
  refine mm_scload d145_426 i426 ?_
  exact mm_callV0 (as := [.int (X.2 (x4 + 1).toNatClampNeg), .int (X.2 (x4 + 2).toNatClampNeg)]) (S := []) d145_427 okm110 ln145_77 im110 se110 rfl ⟨_, _, rfl⟩ rfl rfl (Nat.le_of_ble_eq_true rfl) (Nat.le_of_ble_eq_true rfl) hcall hr
theorem b145_430 {l : Launch} {X : Nat × (Nat → Int32)} {d : Nat} {I : Nat → Nat → Int32} {J : Nat → Nat → Int64} {x4 : Int32} {x5 : Int32} {s0 : Int64} {mc ms : Nat} {o : mm_O} {σ' : mm_S} {r : Int32} {I1 : Nat → Nat → Int32} {J1 : Nat → Nat → Int64} (hcall : mm_Call l X 100 d [.ref 26] (mm_Λ, I, J) 0 0 (.inl (some (.int r))) (mm_Λ, I1, J1)) (hr : mm_Run l X 145 (d + 1) 436 [.retAddr 0, .ref 0, .ref 26, .ref 45, .int x4, .int x5, .long s0, .null] [.int r] (mm_Λ, I1, J1) mc ms o σ') : mm_Run l X 145 (d + 1) 430 [.retAddr 0, .ref 0, .ref 26, .ref 45, .int x4, .int x5, .null, .null] [.long s0] (mm_Λ, I, J) mc ms o σ' := by
  refine mm_lstore d145_430 (by decide +kernel) ?_
  refine mm_aload_n (v := .ref 26) d145_432 rfl (Or.inl ⟨_, rfl⟩) ?_
  exact mm_callV0 (as := []) (S := []) d145_433 okm100 ln145_61 im100 se100 rfl ⟨_, _, rfl⟩ rfl rfl (Nat.le_of_ble_eq_true rfl) (Nat.le_of_ble_eq_true rfl) hcall hr
theorem b145_436 {l : Launch} {X : Nat × (Nat → Int32)} {d : Nat} {I : Nat → Nat → Int32} {J : Nat → Nat → Int64} {x4 : Int32} {x5 : Int32} {x6 : Int64} {s0 : Int32} {mc ms : Nat} {o : mm_O} {σ' : mm_S} (kt : s0 = x5 → mm_Run l X 145 (d + 1) 443 [.retAddr 0, .ref 0, .ref 26, .ref 45, .int x4, .int x5, .long x6, .null] [] (mm_Λ, I, J) mc ms o σ') (kf : ¬ (s0 = x5) → mm_Run l X 145 (d + 1) 441 [.retAddr 0, .ref 0, .ref 26, .ref 45, .int x4, .int x5, .long x6, .null] [] (mm_Λ, I, J) mc ms o σ') : mm_Run l X 145 (d + 1) 436 [.retAddr 0, .ref 0, .ref 26, .ref 45, .int x4, .int x5, .long x6, .null] [.int s0] (mm_Λ, I, J) mc ms o σ' := by
  refine mm_iload d145_436 rfl ?_
  refine mm_icmp (tgt := 443) d145_438 (by decide) (fun h => ?_) (fun h => ?_)
  · exact kt h
  · exact kf h
theorem b145_441 {l : Launch} {X : Nat × (Nat → Int32)} {d : Nat} {I : Nat → Nat → Int32} {J : Nat → Nat → Int64} {x4 : Int32} {x5 : Int32} {x6 : Int64} {mc ms : Nat}  : mm_Run l X 145 (d + 1) 441 [.retAddr 0, .ref 0, .ref 26, .ref 45, .int x4, .int x5, .long x6, .null] [] (mm_Λ, I, J) mc ms (.inl (some (.int 0))) (mm_Λ, I, J) := by
  refine mm_ic d145_441 ci0 ?_
  exact mm_zreturn d145_442 rfl (by decide)
theorem b145_443 {l : Launch} {X : Nat × (Nat → Int32)} {d : Nat} {I : Nat → Nat → Int32} {J : Nat → Nat → Int64} {x4 : Int32} {x5 : Int32} {x6 : Int64} {mc ms : Nat} {o : mm_O} {σ' : mm_S} (kt : ¬ x5 = 0 → mm_Run l X 145 (d + 1) 459 [.retAddr 0, .ref 0, .ref 26, .ref 45, .int x4, .int x5, .long x6, .null] [] (mm_Λ, I, J) mc ms o σ') (kf : ¬ (¬ x5 = 0) → mm_Run l X 145 (d + 1) 448 [.retAddr 0, .ref 0, .ref 26, .ref 45, .int x4, .int x5, .long x6, .null] [] (mm_Λ, I, J) mc ms o σ') : mm_Run l X 145 (d + 1) 443 [.retAddr 0, .ref 0, .ref 26, .ref 45, .int x4, .int x5, .long x6, .null] [] (mm_Λ, I, J) mc ms o σ' := by
  refine mm_iload d145_443 rfl ?_
  refine mm_if (tgt := 459) d145_445 (by decide) (fun h => ?_) (fun h => ?_)
  · exact kt h
  · exact kf h
theorem b145_448 {l : Launch} {X : Nat × (Nat → Int32)} {d : Nat} {I : Nat → Nat → Int32} {J : Nat → Nat → Int64} {x4 : Int32} {x5 : Int32} {x6 : Int64} {mc ms : Nat} {o : mm_O} {σ' : mm_S} (kt : (lg_cmp (J 45 0) x6) = 0 → mm_Run l X 145 (d + 1) 459 [.retAddr 0, .ref 0, .ref 26, .ref 45, .int x4, .int x5, .long x6, .null] [] (mm_Λ, I, J) mc ms o σ') (kf : ¬ ((lg_cmp (J 45 0) x6) = 0) → mm_Run l X 145 (d + 1) 457 [.retAddr 0, .ref 0, .ref 26, .ref 45, .int x4, .int x5, .long x6, .null] [] (mm_Λ, I, J) mc ms o σ') : mm_Run l X 145 (d + 1) 448 [.retAddr 0, .ref 0, .ref 26, .ref 45, .int x4, .int x5, .long x6, .null] [] (mm_Λ, I, J) mc ms o σ' := by
  refine mm_aload_n (v := .ref 45) d145_448 rfl (Or.inl ⟨_, rfl⟩) ?_
  refine mm_ic d145_449 ci0 ?_
  refine mm_laload d145_450 rfl (by unfold vp_in; decide) ?_
  refine mm_lload d145_451 rfl ?_
  refine mm_lcmp d145_453 ?_
  refine mm_if (tgt := 459) d145_454 (by decide) (fun h => ?_) (fun h => ?_)
  · exact kt h
  · exact kf h
theorem b145_457 {l : Launch} {X : Nat × (Nat → Int32)} {d : Nat} {I : Nat → Nat → Int32} {J : Nat → Nat → Int64} {x4 : Int32} {x5 : Int32} {x6 : Int64} {mc ms : Nat}  : mm_Run l X 145 (d + 1) 457 [.retAddr 0, .ref 0, .ref 26, .ref 45, .int x4, .int x5, .long x6, .null] [] (mm_Λ, I, J) mc ms (.inl (some (.int 0))) (mm_Λ, I, J) := by
  refine mm_ic d145_457 ci0 ?_
  exact mm_zreturn d145_458 rfl (by decide)
theorem b145_459 {l : Launch} {X : Nat × (Nat → Int32)} {d : Nat} {I : Nat → Nat → Int32} {J : Nat → Nat → Int64} {x4 : Int32} {x5 : Int32} {x6 : Int64} {mc ms : Nat} {o : mm_O} {σ' : mm_S} (hr : mm_Run l X 145 (d + 1) 972 [.retAddr 0, .ref 0, .ref 26, .ref 45, .int x4, .null, .null, .null] [] (mm_Λ, I, J) mc ms o σ') : mm_Run l X 145 (d + 1) 459 [.retAddr 0, .ref 0, .ref 26, .ref 45, .int x4, .int x5, .long x6, .null] [] (mm_Λ, I, J) mc ms o σ' := by
  refine mm_goto (tgt := 972) d145_459 (by decide) ?_
  exact mm_forget hr (by exact ⟨rfl, rfl, rfl, rfl, rfl, trivial⟩)
theorem b145_462 {l : Launch} {X : Nat × (Nat → Int32)} {d : Nat} {mc ms : Nat} {I : Nat → Nat → Int32} {J : Nat → Nat → Int64} {x4 : Int32} {o : mm_O} {σ' : mm_S} (i468 : vp_in (x4 + 1) X.1) (i474 : vp_in (x4 + 2) X.1) (i480 : vp_in (x4 + 3) X.1) (i490 : vp_in (x4 + 4) X.1) {r : Int32} {I1 : Nat → Nat → Int32} {J1 : Nat → Nat → Int64} {mc1 ms1 : Nat} (hcall : mm_Call l X 55 d [.ref 0, .int (X.2 (x4 + 1).toNatClampNeg), .int (X.2 (x4 + 2).toNatClampNeg), .long ((((X.2 (x4 + 3).toNatClampNeg).toInt64) <<< ((32 : Int32).toInt64 &&& 63)) ||| (((X.2 (x4 + 4).toNatClampNeg).toInt64) &&& 4294967295)), .ref 45] (mm_Λ, I, J) mc1 ms1 (.inl (some (.int r))) (mm_Λ, I1, J1)) (hr : mm_Run l X 145 (d + 1) 501 [.retAddr 0, .ref 0, .ref 26, .ref 45, .int x4, .null, .null, .null] [.int r] (mm_Λ, I1, J1) mc ms o σ') : mm_Run l X 145 (d + 1) 462 [.retAddr 0, .ref 0, .ref 26, .ref 45, .int x4, .null, .null, .null] [] (mm_Λ, I, J) (mc1 + mc) (ms1 + ms) o σ' := by
  refine mm_aload_n (v := .ref 0) d145_462 rfl (Or.inl ⟨_, rfl⟩) ?_
  refine mm_aload_n (v := .retAddr 0) d145_463 rfl (Or.inr ⟨_, rfl⟩) ?_
  refine mm_iload d145_464 rfl ?_
  refine mm_ic d145_466 ci1 ?_
  refine mm_iadd d145_467 ?_
  refine mm_scload d145_468 i468 ?_
  refine mm_aload_n (v := .retAddr 0) d145_469 rfl (Or.inr ⟨_, rfl⟩) ?_
  refine mm_iload d145_470 rfl ?_
  refine mm_ic d145_472 ci2 ?_
  refine mm_iadd d145_473 ?_
  refine mm_scload d145_474 i474 ?_
  refine mm_aload_n (v := .retAddr 0) d145_475 rfl (Or.inr ⟨_, rfl⟩) ?_
  refine mm_iload d145_476 rfl ?_
  refine mm_ic d145_478 ci3 ?_
  refine mm_iadd d145_479 ?_
  refine mm_scload d145_480 i480 ?_
  refine mm_i2l d145_481 ?_
  refine mm_bi d145_482 cb32 ?_
  refine mm_lshl d145_484 ?_
  refine mm_aload_n (v := .retAddr 0) d145_485 rfl (Or.inr ⟨_, rfl⟩) ?_
  refine mm_iload d145_486 rfl ?_
  refine mm_ic d145_488 ci4 ?_
  refine mm_iadd d145_489 ?_
  refine mm_scload d145_490 i490 ?_
  refine mm_i2l d145_491 ?_
  refine mm_ldc2 d145_492 kl145_69 ?_
  refine mm_land d145_495 ?_
  refine mm_lor d145_496 ?_
  refine mm_aload_n (v := .ref 45) d145_497 rfl (Or.inl ⟨_, rfl⟩) ?_
  exact mm_callSW (n := 5) (mc1 := mc1) (ms1 := ms1) (as := [.ref 0, .int (X.2 (x4 + 1).toNatClampNeg), .int (X.2 (x4 + 2).toNatClampNeg), .long ((((X.2 (x4 + 3).toNatClampNeg).toInt64) <<< ((32 : Int32).toInt64 &&& 63)) ||| (((X.2 (x4 + 4).toNatClampNeg).toInt64) &&& 4294967295)), .ref 45]) (S := []) d145_498 cw55 mw5 mw6 (by decide +kernel) (by decide +kernel) isw55 ln145_78 st55 rfl rfl (Nat.le_of_ble_eq_true rfl) (Nat.le_of_ble_eq_true rfl) hcall hr
theorem b145_501 {l : Launch} {X : Nat × (Nat → Int32)} {d : Nat} {I : Nat → Nat → Int32} {J : Nat → Nat → Int64} {x4 : Int32} {s0 : Int32} {mc ms : Nat} {o : mm_O} {σ' : mm_S} (i509 : vp_in (x4 + 1) X.1) (i515 : vp_in (x4 + 2) X.1) (i521 : vp_in (x4 + 3) X.1) (i531 : vp_in (x4 + 4) X.1) {r : Int32} {I1 : Nat → Nat → Int32} {J1 : Nat → Nat → Int64} (hcall : mm_Call l X 123 d [.ref 26, .int (X.2 (x4 + 1).toNatClampNeg), .int (X.2 (x4 + 2).toNatClampNeg), .long ((((X.2 (x4 + 3).toNatClampNeg).toInt64) <<< ((32 : Int32).toInt64 &&& 63)) ||| (((X.2 (x4 + 4).toNatClampNeg).toInt64) &&& 4294967295))] (mm_Λ, I, J) 0 0 (.inl (some (.int r))) (mm_Λ, I1, J1)) (hr : mm_Run l X 145 (d + 1) 541 [.retAddr 0, .ref 0, .ref 26, .ref 45, .int x4, .int s0, .null, .null] [.int r] (mm_Λ, I1, J1) mc ms o σ') : mm_Run l X 145 (d + 1) 501 [.retAddr 0, .ref 0, .ref 26, .ref 45, .int x4, .null, .null, .null] [.int s0] (mm_Λ, I, J) mc ms o σ' := by
  refine mm_istore d145_501 (by decide +kernel) ?_
  refine mm_aload_n (v := .ref 26) d145_503 rfl (Or.inl ⟨_, rfl⟩) ?_
  refine mm_aload_n (v := .retAddr 0) d145_504 rfl (Or.inr ⟨_, rfl⟩) ?_
  refine mm_iload d145_505 rfl ?_
  refine mm_ic d145_507 ci1 ?_
  refine mm_iadd d145_508 ?_
  refine mm_scload d145_509 i509 ?_
  refine mm_aload_n (v := .retAddr 0) d145_510 rfl (Or.inr ⟨_, rfl⟩) ?_
  refine mm_iload d145_511 rfl ?_
  refine mm_ic d145_513 ci2 ?_
  refine mm_iadd d145_514 ?_
  refine mm_scload d145_515 i515 ?_
  refine mm_aload_n (v := .retAddr 0) d145_516 rfl (Or.inr ⟨_, rfl⟩) ?_
  refine mm_iload d145_517 rfl ?_
  refine mm_ic d145_519 ci3 ?_
  refine mm_iadd d145_520 ?_
  refine mm_scload d145_521 i521 ?_
  refine mm_i2l d145_522 ?_
  refine mm_bi d145_523 cb32 ?_
  refine mm_lshl d145_525 ?_
  refine mm_aload_n (v := .retAddr 0) d145_526 rfl (Or.inr ⟨_, rfl⟩) ?_
  refine mm_iload d145_527 rfl ?_
  refine mm_ic d145_529 ci4 ?_
  refine mm_iadd d145_530 ?_
  refine mm_scload d145_531 i531 ?_
  refine mm_i2l d145_532 ?_
  refine mm_ldc2 d145_533 kl145_69 ?_
  refine mm_land d145_536 ?_
  refine mm_lor d145_537 ?_
  exact mm_callV0 (as := [.int (X.2 (x4 + 1).toNatClampNeg), .int (X.2 (x4 + 2).toNatClampNeg), .long ((((X.2 (x4 + 3).toNatClampNeg).toInt64) <<< ((32 : Int32).toInt64 &&& 63)) ||| (((X.2 (x4 + 4).toNatClampNeg).toInt64) &&& 4294967295))]) (S := []) d145_538 okm123 ln145_80 im123 se123 rfl ⟨_, _, rfl⟩ rfl rfl (Nat.le_of_ble_eq_true rfl) (Nat.le_of_ble_eq_true rfl) hcall hr
theorem b145_541 {l : Launch} {X : Nat × (Nat → Int32)} {d : Nat} {I : Nat → Nat → Int32} {J : Nat → Nat → Int64} {x4 : Int32} {x5 : Int32} {s0 : Int32} {mc ms : Nat} {o : mm_O} {σ' : mm_S} {r : Int32} {I1 : Nat → Nat → Int32} {J1 : Nat → Nat → Int64} (hcall : mm_Call l X 100 d [.ref 26] (mm_Λ, I, J) 0 0 (.inl (some (.int r))) (mm_Λ, I1, J1)) (hr : mm_Run l X 145 (d + 1) 547 [.retAddr 0, .ref 0, .ref 26, .ref 45, .int x4, .int x5, .int s0, .null] [.int r] (mm_Λ, I1, J1) mc ms o σ') : mm_Run l X 145 (d + 1) 541 [.retAddr 0, .ref 0, .ref 26, .ref 45, .int x4, .int x5, .null, .null] [.int s0] (mm_Λ, I, J) mc ms o σ' := by
  refine mm_istore d145_541 (by decide +kernel) ?_
  refine mm_aload_n (v := .ref 26) d145_543 rfl (Or.inl ⟨_, rfl⟩) ?_
  exact mm_callV0 (as := []) (S := []) d145_544 okm100 ln145_61 im100 se100 rfl ⟨_, _, rfl⟩ rfl rfl (Nat.le_of_ble_eq_true rfl) (Nat.le_of_ble_eq_true rfl) hcall hr
theorem b145_547 {l : Launch} {X : Nat × (Nat → Int32)} {d : Nat} {I : Nat → Nat → Int32} {J : Nat → Nat → Int64} {x4 : Int32} {x5 : Int32} {x6 : Int32} {s0 : Int32} {mc ms : Nat} {o : mm_O} {σ' : mm_S} (kt : s0 = x5 → mm_Run l X 145 (d + 1) 554 [.retAddr 0, .ref 0, .ref 26, .ref 45, .int x4, .int x5, .int x6, .null] [] (mm_Λ, I, J) mc ms o σ') (kf : ¬ (s0 = x5) → mm_Run l X 145 (d + 1) 552 [.retAddr 0, .ref 0, .ref 26, .ref 45, .int x4, .int x5, .int x6, .null] [] (mm_Λ, I, J) mc ms o σ') : mm_Run l X 145 (d + 1) 547 [.retAddr 0, .ref 0, .ref 26, .ref 45, .int x4, .int x5, .int x6, .null] [.int s0] (mm_Λ, I, J) mc ms o σ' := by
  refine mm_iload d145_547 rfl ?_
  refine mm_icmp (tgt := 554) d145_549 (by decide) (fun h => ?_) (fun h => ?_)
  · exact kt h
  · exact kf h
theorem b145_552 {l : Launch} {X : Nat × (Nat → Int32)} {d : Nat} {I : Nat → Nat → Int32} {J : Nat → Nat → Int64} {x4 : Int32} {x5 : Int32} {x6 : Int32} {mc ms : Nat}  : mm_Run l X 145 (d + 1) 552 [.retAddr 0, .ref 0, .ref 26, .ref 45, .int x4, .int x5, .int x6, .null] [] (mm_Λ, I, J) mc ms (.inl (some (.int 0))) (mm_Λ, I, J) := by
  refine mm_ic d145_552 ci0 ?_
  exact mm_zreturn d145_553 rfl (by decide)
theorem b145_554 {l : Launch} {X : Nat × (Nat → Int32)} {d : Nat} {I : Nat → Nat → Int32} {J : Nat → Nat → Int64} {x4 : Int32} {x5 : Int32} {x6 : Int32} {mc ms : Nat} {o : mm_O} {σ' : mm_S} (kt : ¬ x5 = 0 → mm_Run l X 145 (d + 1) 571 [.retAddr 0, .ref 0, .ref 26, .ref 45, .int x4, .int x5, .int x6, .null] [] (mm_Λ, I, J) mc ms o σ') (kf : ¬ (¬ x5 = 0) → mm_Run l X 145 (d + 1) 559 [.retAddr 0, .ref 0, .ref 26, .ref 45, .int x4, .int x5, .int x6, .null] [] (mm_Λ, I, J) mc ms o σ') : mm_Run l X 145 (d + 1) 554 [.retAddr 0, .ref 0, .ref 26, .ref 45, .int x4, .int x5, .int x6, .null] [] (mm_Λ, I, J) mc ms o σ' := by
  refine mm_iload d145_554 rfl ?_
  refine mm_if (tgt := 571) d145_556 (by decide) (fun h => ?_) (fun h => ?_)
  · exact kt h
  · exact kf h
theorem b145_559 {l : Launch} {X : Nat × (Nat → Int32)} {d : Nat} {I : Nat → Nat → Int32} {J : Nat → Nat → Int64} {x4 : Int32} {x5 : Int32} {x6 : Int32} {mc ms : Nat} {o : mm_O} {σ' : mm_S} (kt : (lg_cmp (J 45 0) (x6.toInt64)) = 0 → mm_Run l X 145 (d + 1) 571 [.retAddr 0, .ref 0, .ref 26, .ref 45, .int x4, .int x5, .int x6, .null] [] (mm_Λ, I, J) mc ms o σ') (kf : ¬ ((lg_cmp (J 45 0) (x6.toInt64)) = 0) → mm_Run l X 145 (d + 1) 569 [.retAddr 0, .ref 0, .ref 26, .ref 45, .int x4, .int x5, .int x6, .null] [] (mm_Λ, I, J) mc ms o σ') : mm_Run l X 145 (d + 1) 559 [.retAddr 0, .ref 0, .ref 26, .ref 45, .int x4, .int x5, .int x6, .null] [] (mm_Λ, I, J) mc ms o σ' := by
  refine mm_aload_n (v := .ref 45) d145_559 rfl (Or.inl ⟨_, rfl⟩) ?_
  refine mm_ic d145_560 ci0 ?_
  refine mm_laload d145_561 rfl (by unfold vp_in; decide) ?_
  refine mm_iload d145_562 rfl ?_
  refine mm_i2l d145_564 ?_
  refine mm_lcmp d145_565 ?_
  refine mm_if (tgt := 571) d145_566 (by decide) (fun h => ?_) (fun h => ?_)
  · exact kt h
  · exact kf h
theorem b145_569 {l : Launch} {X : Nat × (Nat → Int32)} {d : Nat} {I : Nat → Nat → Int32} {J : Nat → Nat → Int64} {x4 : Int32} {x5 : Int32} {x6 : Int32} {mc ms : Nat}  : mm_Run l X 145 (d + 1) 569 [.retAddr 0, .ref 0, .ref 26, .ref 45, .int x4, .int x5, .int x6, .null] [] (mm_Λ, I, J) mc ms (.inl (some (.int 0))) (mm_Λ, I, J) := by
  refine mm_ic d145_569 ci0 ?_
  exact mm_zreturn d145_570 rfl (by decide)
theorem b145_571 {l : Launch} {X : Nat × (Nat → Int32)} {d : Nat} {I : Nat → Nat → Int32} {J : Nat → Nat → Int64} {x4 : Int32} {x5 : Int32} {x6 : Int32} {mc ms : Nat} {o : mm_O} {σ' : mm_S} (hr : mm_Run l X 145 (d + 1) 972 [.retAddr 0, .ref 0, .ref 26, .ref 45, .int x4, .null, .null, .null] [] (mm_Λ, I, J) mc ms o σ') : mm_Run l X 145 (d + 1) 571 [.retAddr 0, .ref 0, .ref 26, .ref 45, .int x4, .int x5, .int x6, .null] [] (mm_Λ, I, J) mc ms o σ' := by
  refine mm_goto (tgt := 972) d145_571 (by decide) ?_
  exact mm_forget hr (by exact ⟨rfl, rfl, rfl, rfl, rfl, trivial⟩)
theorem b145_574 {l : Launch} {X : Nat × (Nat → Int32)} {d : Nat} {I : Nat → Nat → Int32} {J : Nat → Nat → Int64} {x4 : Int32} {mc ms : Nat} {o : mm_O} {σ' : mm_S} (i580 : vp_in (x4 + 1) X.1) {r : Int32} {I1 : Nat → Nat → Int32} {J1 : Nat → Nat → Int64} (hcall : mm_Call l X 9 d [.ref 0, .int (X.2 (x4 + 1).toNatClampNeg)] (mm_Λ, I, J) 0 0 (.inl (some (.int r))) (mm_Λ, I1, J1)) (hr : mm_Run l X 145 (d + 1) 584 [.retAddr 0, .ref 0, .ref 26, .ref 45, .int x4, .null, .null, .null] [.int r] (mm_Λ, I1, J1) mc ms o σ') : mm_Run l X 145 (d + 1) 574 [.retAddr 0, .ref 0, .ref 26, .ref 45, .int x4, .null, .null, .null] [] (mm_Λ, I, J) mc ms o σ' := by
  refine mm_aload_n (v := .ref 0) d145_574 rfl (Or.inl ⟨_, rfl⟩) ?_
  refine mm_aload_n (v := .retAddr 0) d145_575 rfl (Or.inr ⟨_, rfl⟩) ?_
  refine mm_iload d145_576 rfl ?_
  refine mm_ic d145_578 ci1 ?_
  refine mm_iadd d145_579 ?_
  refine mm_scload d145_580 i580 ?_
  exact mm_callV0 (as := [.int (X.2 (x4 + 1).toNatClampNeg)]) (S := []) d145_581 okm9 ln145_81 im9 se9 rfl ⟨_, _, rfl⟩ rfl rfl (Nat.le_of_ble_eq_true rfl) (Nat.le_of_ble_eq_true rfl) hcall hr
theorem b145_584 {l : Launch} {X : Nat × (Nat → Int32)} {d : Nat} {I : Nat → Nat → Int32} {J : Nat → Nat → Int64} {x4 : Int32} {s0 : Int32} {mc ms : Nat} {o : mm_O} {σ' : mm_S} (i590 : vp_in (x4 + 1) X.1) {r : Int32} {I1 : Nat → Nat → Int32} {J1 : Nat → Nat → Int64} (hcall : mm_Call l X 125 d [.ref 26, .int (X.2 (x4 + 1).toNatClampNeg)] (mm_Λ, I, J) 0 0 (.inl (some (.int r))) (mm_Λ, I1, J1)) (hr : mm_Run l X 145 (d + 1) 594 [.retAddr 0, .ref 0, .ref 26, .ref 45, .int x4, .null, .null, .null] [.int r, .int s0] (mm_Λ, I1, J1) mc ms o σ') : mm_Run l X 145 (d + 1) 584 [.retAddr 0, .ref 0, .ref 26, .ref 45, .int x4, .null, .null, .null] [.int s0] (mm_Λ, I, J) mc ms o σ' := by
  refine mm_aload_n (v := .ref 26) d145_584 rfl (Or.inl ⟨_, rfl⟩) ?_
  refine mm_aload_n (v := .retAddr 0) d145_585 rfl (Or.inr ⟨_, rfl⟩) ?_
  refine mm_iload d145_586 rfl ?_
  refine mm_ic d145_588 ci1 ?_
  refine mm_iadd d145_589 ?_
  refine mm_scload d145_590 i590 ?_
  exact mm_callV0 (as := [.int (X.2 (x4 + 1).toNatClampNeg)]) (S := [.int s0]) d145_591 okm125 ln145_84 im125 se125 rfl ⟨_, _, rfl⟩ rfl rfl (Nat.le_of_ble_eq_true rfl) (Nat.le_of_ble_eq_true rfl) hcall hr
theorem b145_594 {l : Launch} {X : Nat × (Nat → Int32)} {d : Nat} {I : Nat → Nat → Int32} {J : Nat → Nat → Int64} {x4 : Int32} {s0 : Int32} {s1 : Int32} {mc ms : Nat} {o : mm_O} {σ' : mm_S} (kt : s1 = s0 → mm_Run l X 145 (d + 1) 972 [.retAddr 0, .ref 0, .ref 26, .ref 45, .int x4, .null, .null, .null] [] (mm_Λ, I, J) mc ms o σ') (kf : ¬ (s1 = s0) → mm_Run l X 145 (d + 1) 597 [.retAddr 0, .ref 0, .ref 26, .ref 45, .int x4, .null, .null, .null] [] (mm_Λ, I, J) mc ms o σ') : mm_Run l X 145 (d + 1) 594 [.retAddr 0, .ref 0, .ref 26, .ref 45, .int x4, .null, .null, .null] [.int s0, .int s1] (mm_Λ, I, J) mc ms o σ' := by
  refine mm_icmp (tgt := 972) d145_594 (by decide) (fun h => ?_) (fun h => ?_)
  · exact kt h
  · exact kf h
theorem b145_597 {l : Launch} {X : Nat × (Nat → Int32)} {d : Nat} {I : Nat → Nat → Int32} {J : Nat → Nat → Int64} {x4 : Int32} {mc ms : Nat}  : mm_Run l X 145 (d + 1) 597 [.retAddr 0, .ref 0, .ref 26, .ref 45, .int x4, .null, .null, .null] [] (mm_Λ, I, J) mc ms (.inl (some (.int 0))) (mm_Λ, I, J) := by
  refine mm_ic d145_597 ci0 ?_
  exact mm_zreturn d145_598 rfl (by decide)
theorem b145_599 {l : Launch} {X : Nat × (Nat → Int32)} {d : Nat} {mc ms : Nat} {I : Nat → Nat → Int32} {J : Nat → Nat → Int64} {x4 : Int32} {o : mm_O} {σ' : mm_S} (i605 : vp_in (x4 + 1) X.1) (i611 : vp_in (x4 + 2) X.1) {r : Int32} {I1 : Nat → Nat → Int32} {J1 : Nat → Nat → Int64} {mc1 ms1 : Nat} (hcall : mm_Call l X 63 d [.ref 0, .int (X.2 (x4 + 1).toNatClampNeg), .int (X.2 (x4 + 2).toNatClampNeg), .ref 45] (mm_Λ, I, J) mc1 ms1 (.inl (some (.int r))) (mm_Λ, I1, J1)) (hr : mm_Run l X 145 (d + 1) 616 [.retAddr 0, .ref 0, .ref 26, .ref 45, .int x4, .null, .null, .null] [.int r] (mm_Λ, I1, J1) mc ms o σ') : mm_Run l X 145 (d + 1) 599 [.retAddr 0, .ref 0, .ref 26, .ref 45, .int x4, .null, .null, .null] [] (mm_Λ, I, J) (mc1 + mc) (ms1 + ms) o σ' := by
  refine mm_aload_n (v := .ref 0) d145_599 rfl (Or.inl ⟨_, rfl⟩) ?_
  refine mm_aload_n (v := .retAddr 0) d145_600 rfl (Or.inr ⟨_, rfl⟩) ?_
  refine mm_iload d145_601 rfl ?_
  refine mm_ic d145_603 ci1 ?_
  refine mm_iadd d145_604 ?_
  refine mm_scload d145_605 i605 ?_
  refine mm_aload_n (v := .retAddr 0) d145_606 rfl (Or.inr ⟨_, rfl⟩) ?_
  refine mm_iload d145_607 rfl ?_
  refine mm_ic d145_609 ci2 ?_
  refine mm_iadd d145_610 ?_
  refine mm_scload d145_611 i611 ?_
  refine mm_aload_n (v := .ref 45) d145_612 rfl (Or.inl ⟨_, rfl⟩) ?_
  exact mm_callSW (n := 4) (mc1 := mc1) (ms1 := ms1) (as := [.ref 0, .int (X.2 (x4 + 1).toNatClampNeg), .int (X.2 (x4 + 2).toNatClampNeg), .ref 45]) (S := []) d145_613 cw63 mw5 mw6 (by decide +kernel) (by decide +kernel) isw63 ln145_85 st63 rfl rfl (Nat.le_of_ble_eq_true rfl) (Nat.le_of_ble_eq_true rfl) hcall hr
theorem b145_616 {l : Launch} {X : Nat × (Nat → Int32)} {d : Nat} {I : Nat → Nat → Int32} {J : Nat → Nat → Int64} {x4 : Int32} {s0 : Int32} {mc ms : Nat} {o : mm_O} {σ' : mm_S} (i624 : vp_in (x4 + 1) X.1) (i630 : vp_in (x4 + 2) X.1) {r : Int32} {I1 : Nat → Nat → Int32} {J1 : Nat → Nat → Int64} (hcall : mm_Call l X 126 d [.ref 26, .int (X.2 (x4 + 1).toNatClampNeg), .int (X.2 (x4 + 2).toNatClampNeg)] (mm_Λ, I, J) 0 0 (.inl (some (.int r))) (mm_Λ, I1, J1)) (hr : mm_Run l X 145 (d + 1) 634 [.retAddr 0, .ref 0, .ref 26, .ref 45, .int x4, .int s0, .null, .null] [.int r] (mm_Λ, I1, J1) mc ms o σ') : mm_Run l X 145 (d + 1) 616 [.retAddr 0, .ref 0, .ref 26, .ref 45, .int x4, .null, .null, .null] [.int s0] (mm_Λ, I, J) mc ms o σ' := by
  refine mm_istore d145_616 (by decide +kernel) ?_
  refine mm_aload_n (v := .ref 26) d145_618 rfl (Or.inl ⟨_, rfl⟩) ?_
  refine mm_aload_n (v := .retAddr 0) d145_619 rfl (Or.inr ⟨_, rfl⟩) ?_
  refine mm_iload d145_620 rfl ?_
  refine mm_ic d145_622 ci1 ?_
  refine mm_iadd d145_623 ?_
  refine mm_scload d145_624 i624 ?_
  refine mm_aload_n (v := .retAddr 0) d145_625 rfl (Or.inr ⟨_, rfl⟩) ?_
  refine mm_iload d145_626 rfl ?_
  refine mm_ic d145_628 ci2 ?_
  refine mm_iadd d145_629 ?_
  refine mm_scload d145_630 i630 ?_
  exact mm_callV0 (as := [.int (X.2 (x4 + 1).toNatClampNeg), .int (X.2 (x4 + 2).toNatClampNeg)]) (S := []) d145_631 okm126 ln145_87 im126 se126 rfl ⟨_, _, rfl⟩ rfl rfl (Nat.le_of_ble_eq_true rfl) (Nat.le_of_ble_eq_true rfl) hcall hr
theorem b145_634 {l : Launch} {X : Nat × (Nat → Int32)} {d : Nat} {I : Nat → Nat → Int32} {J : Nat → Nat → Int64} {x4 : Int32} {x5 : Int32} {s0 : Int32} {mc ms : Nat} {o : mm_O} {σ' : mm_S} {r : Int32} {I1 : Nat → Nat → Int32} {J1 : Nat → Nat → Int64} (hcall : mm_Call l X 100 d [.ref 26] (mm_Λ, I, J) 0 0 (.inl (some (.int r))) (mm_Λ, I1, J1)) (hr : mm_Run l X 145 (d + 1) 640 [.retAddr 0, .ref 0, .ref 26, .ref 45, .int x4, .int x5, .int s0, .null] [.int r] (mm_Λ, I1, J1) mc ms o σ') : mm_Run l X 145 (d + 1) 634 [.retAddr 0, .ref 0, .ref 26, .ref 45, .int x4, .int x5, .null, .null] [.int s0] (mm_Λ, I, J) mc ms o σ' := by
  refine mm_istore d145_634 (by decide +kernel) ?_
  refine mm_aload_n (v := .ref 26) d145_636 rfl (Or.inl ⟨_, rfl⟩) ?_
  exact mm_callV0 (as := []) (S := []) d145_637 okm100 ln145_61 im100 se100 rfl ⟨_, _, rfl⟩ rfl rfl (Nat.le_of_ble_eq_true rfl) (Nat.le_of_ble_eq_true rfl) hcall hr
theorem b145_640 {l : Launch} {X : Nat × (Nat → Int32)} {d : Nat} {I : Nat → Nat → Int32} {J : Nat → Nat → Int64} {x4 : Int32} {x5 : Int32} {x6 : Int32} {s0 : Int32} {mc ms : Nat} {o : mm_O} {σ' : mm_S} (kt : s0 = x5 → mm_Run l X 145 (d + 1) 647 [.retAddr 0, .ref 0, .ref 26, .ref 45, .int x4, .int x5, .int x6, .null] [] (mm_Λ, I, J) mc ms o σ') (kf : ¬ (s0 = x5) → mm_Run l X 145 (d + 1) 645 [.retAddr 0, .ref 0, .ref 26, .ref 45, .int x4, .int x5, .int x6, .null] [] (mm_Λ, I, J) mc ms o σ') : mm_Run l X 145 (d + 1) 640 [.retAddr 0, .ref 0, .ref 26, .ref 45, .int x4, .int x5, .int x6, .null] [.int s0] (mm_Λ, I, J) mc ms o σ' := by
  refine mm_iload d145_640 rfl ?_
  refine mm_icmp (tgt := 647) d145_642 (by decide) (fun h => ?_) (fun h => ?_)
  · exact kt h
  · exact kf h
theorem b145_645 {l : Launch} {X : Nat × (Nat → Int32)} {d : Nat} {I : Nat → Nat → Int32} {J : Nat → Nat → Int64} {x4 : Int32} {x5 : Int32} {x6 : Int32} {mc ms : Nat}  : mm_Run l X 145 (d + 1) 645 [.retAddr 0, .ref 0, .ref 26, .ref 45, .int x4, .int x5, .int x6, .null] [] (mm_Λ, I, J) mc ms (.inl (some (.int 0))) (mm_Λ, I, J) := by
  refine mm_ic d145_645 ci0 ?_
  exact mm_zreturn d145_646 rfl (by decide)
theorem b145_647 {l : Launch} {X : Nat × (Nat → Int32)} {d : Nat} {I : Nat → Nat → Int32} {J : Nat → Nat → Int64} {x4 : Int32} {x5 : Int32} {x6 : Int32} {mc ms : Nat} {o : mm_O} {σ' : mm_S} (kt : ¬ x5 = 0 → mm_Run l X 145 (d + 1) 664 [.retAddr 0, .ref 0, .ref 26, .ref 45, .int x4, .int x5, .int x6, .null] [] (mm_Λ, I, J) mc ms o σ') (kf : ¬ (¬ x5 = 0) → mm_Run l X 145 (d + 1) 652 [.retAddr 0, .ref 0, .ref 26, .ref 45, .int x4, .int x5, .int x6, .null] [] (mm_Λ, I, J) mc ms o σ') : mm_Run l X 145 (d + 1) 647 [.retAddr 0, .ref 0, .ref 26, .ref 45, .int x4, .int x5, .int x6, .null] [] (mm_Λ, I, J) mc ms o σ' := by
  refine mm_iload d145_647 rfl ?_
  refine mm_if (tgt := 664) d145_649 (by decide) (fun h => ?_) (fun h => ?_)
  · exact kt h
  · exact kf h
theorem b145_652 {l : Launch} {X : Nat × (Nat → Int32)} {d : Nat} {I : Nat → Nat → Int32} {J : Nat → Nat → Int64} {x4 : Int32} {x5 : Int32} {x6 : Int32} {mc ms : Nat} {o : mm_O} {σ' : mm_S} (kt : (lg_cmp (J 45 0) (x6.toInt64)) = 0 → mm_Run l X 145 (d + 1) 664 [.retAddr 0, .ref 0, .ref 26, .ref 45, .int x4, .int x5, .int x6, .null] [] (mm_Λ, I, J) mc ms o σ') (kf : ¬ ((lg_cmp (J 45 0) (x6.toInt64)) = 0) → mm_Run l X 145 (d + 1) 662 [.retAddr 0, .ref 0, .ref 26, .ref 45, .int x4, .int x5, .int x6, .null] [] (mm_Λ, I, J) mc ms o σ') : mm_Run l X 145 (d + 1) 652 [.retAddr 0, .ref 0, .ref 26, .ref 45, .int x4, .int x5, .int x6, .null] [] (mm_Λ, I, J) mc ms o σ' := by
  refine mm_aload_n (v := .ref 45) d145_652 rfl (Or.inl ⟨_, rfl⟩) ?_
  refine mm_ic d145_653 ci0 ?_
  refine mm_laload d145_654 rfl (by unfold vp_in; decide) ?_
  refine mm_iload d145_655 rfl ?_
  refine mm_i2l d145_657 ?_
  refine mm_lcmp d145_658 ?_
  refine mm_if (tgt := 664) d145_659 (by decide) (fun h => ?_) (fun h => ?_)
  · exact kt h
  · exact kf h
theorem b145_662 {l : Launch} {X : Nat × (Nat → Int32)} {d : Nat} {I : Nat → Nat → Int32} {J : Nat → Nat → Int64} {x4 : Int32} {x5 : Int32} {x6 : Int32} {mc ms : Nat}  : mm_Run l X 145 (d + 1) 662 [.retAddr 0, .ref 0, .ref 26, .ref 45, .int x4, .int x5, .int x6, .null] [] (mm_Λ, I, J) mc ms (.inl (some (.int 0))) (mm_Λ, I, J) := by
  refine mm_ic d145_662 ci0 ?_
  exact mm_zreturn d145_663 rfl (by decide)
theorem b145_664 {l : Launch} {X : Nat × (Nat → Int32)} {d : Nat} {I : Nat → Nat → Int32} {J : Nat → Nat → Int64} {x4 : Int32} {x5 : Int32} {x6 : Int32} {mc ms : Nat} {o : mm_O} {σ' : mm_S} (hr : mm_Run l X 145 (d + 1) 972 [.retAddr 0, .ref 0, .ref 26, .ref 45, .int x4, .null, .null, .null] [] (mm_Λ, I, J) mc ms o σ') : mm_Run l X 145 (d + 1) 664 [.retAddr 0, .ref 0, .ref 26, .ref 45, .int x4, .int x5, .int x6, .null] [] (mm_Λ, I, J) mc ms o σ' := by
  refine mm_goto (tgt := 972) d145_664 (by decide) ?_
  exact mm_forget hr (by exact ⟨rfl, rfl, rfl, rfl, rfl, trivial⟩)
theorem b145_667 {l : Launch} {X : Nat × (Nat → Int32)} {d : Nat} {mc ms : Nat} {I : Nat → Nat → Int32} {J : Nat → Nat → Int64} {x4 : Int32} {o : mm_O} {σ' : mm_S} (i673 : vp_in (x4 + 1) X.1) (i679 : vp_in (x4 + 2) X.1) {r : Int32} {I1 : Nat → Nat → Int32} {J1 : Nat → Nat → Int64} {mc1 ms1 : Nat} (hcall : mm_Call l X 70 d [.ref 0, .int (X.2 (x4 + 1).toNatClampNeg), .int (X.2 (x4 + 2).toNatClampNeg), .ref 45] (mm_Λ, I, J) mc1 ms1 (.inl (some (.int r))) (mm_Λ, I1, J1)) (hr : mm_Run l X 145 (d + 1) 684 [.retAddr 0, .ref 0, .ref 26, .ref 45, .int x4, .null, .null, .null] [.int r] (mm_Λ, I1, J1) mc ms o σ') : mm_Run l X 145 (d + 1) 667 [.retAddr 0, .ref 0, .ref 26, .ref 45, .int x4, .null, .null, .null] [] (mm_Λ, I, J) (mc1 + mc) (ms1 + ms) o σ' := by
  refine mm_aload_n (v := .ref 0) d145_667 rfl (Or.inl ⟨_, rfl⟩) ?_
  refine mm_aload_n (v := .retAddr 0) d145_668 rfl (Or.inr ⟨_, rfl⟩) ?_
  refine mm_iload d145_669 rfl ?_
  refine mm_ic d145_671 ci1 ?_
  refine mm_iadd d145_672 ?_
  refine mm_scload d145_673 i673 ?_
  refine mm_aload_n (v := .retAddr 0) d145_674 rfl (Or.inr ⟨_, rfl⟩) ?_
  refine mm_iload d145_675 rfl ?_
  refine mm_ic d145_677 ci2 ?_
  refine mm_iadd d145_678 ?_
  refine mm_scload d145_679 i679 ?_
  refine mm_aload_n (v := .ref 45) d145_680 rfl (Or.inl ⟨_, rfl⟩) ?_
  exact mm_callSW (n := 4) (mc1 := mc1) (ms1 := ms1) (as := [.ref 0, .int (X.2 (x4 + 1).toNatClampNeg), .int (X.2 (x4 + 2).toNatClampNeg), .ref 45]) (S := []) d145_681 cw70 mw5 mw6 (by decide +kernel) (by decide +kernel) isw70 ln145_88 st70 rfl rfl (Nat.le_of_ble_eq_true rfl) (Nat.le_of_ble_eq_true rfl) hcall hr
theorem b145_684 {l : Launch} {X : Nat × (Nat → Int32)} {d : Nat} {I : Nat → Nat → Int32} {J : Nat → Nat → Int64} {x4 : Int32} {s0 : Int32} {mc ms : Nat} {o : mm_O} {σ' : mm_S} (i692 : vp_in (x4 + 1) X.1) (i698 : vp_in (x4 + 2) X.1) {r : Int32} {I1 : Nat → Nat → Int32} {J1 : Nat → Nat → Int64} (hcall : mm_Call l X 129 d [.ref 26, .int (X.2 (x4 + 1).toNatClampNeg), .int (X.2 (x4 + 2).toNatClampNeg)] (mm_Λ, I, J) 0 0 (.inl (some (.int r))) (mm_Λ, I1, J1)) (hr : mm_Run l X 145 (d + 1) 702 [.retAddr 0, .ref 0, .ref 26, .ref 45, .int x4, .int s0, .null, .null] [.int r] (mm_Λ, I1, J1) mc ms o σ') : mm_Run l X 145 (d + 1) 684 [.retAddr 0, .ref 0, .ref 26, .ref 45, .int x4, .null, .null, .null] [.int s0] (mm_Λ, I, J) mc ms o σ' := by
  refine mm_istore d145_684 (by decide +kernel) ?_
  refine mm_aload_n (v := .ref 26) d145_686 rfl (Or.inl ⟨_, rfl⟩) ?_
  refine mm_aload_n (v := .retAddr 0) d145_687 rfl (Or.inr ⟨_, rfl⟩) ?_
  refine mm_iload d145_688 rfl ?_
  refine mm_ic d145_690 ci1 ?_
  refine mm_iadd d145_691 ?_
  refine mm_scload d145_692 i692 ?_
  refine mm_aload_n (v := .retAddr 0) d145_693 rfl (Or.inr ⟨_, rfl⟩) ?_
  refine mm_iload d145_694 rfl ?_
  refine mm_ic d145_696 ci2 ?_
  refine mm_iadd d145_697 ?_
  refine mm_scload d145_698 i698 ?_
  exact mm_callV0 (as := [.int (X.2 (x4 + 1).toNatClampNeg), .int (X.2 (x4 + 2).toNatClampNeg)]) (S := []) d145_699 okm129 ln145_90 im129 se129 rfl ⟨_, _, rfl⟩ rfl rfl (Nat.le_of_ble_eq_true rfl) (Nat.le_of_ble_eq_true rfl) hcall hr
theorem b145_702 {l : Launch} {X : Nat × (Nat → Int32)} {d : Nat} {I : Nat → Nat → Int32} {J : Nat → Nat → Int64} {x4 : Int32} {x5 : Int32} {s0 : Int32} {mc ms : Nat} {o : mm_O} {σ' : mm_S} {r : Int32} {I1 : Nat → Nat → Int32} {J1 : Nat → Nat → Int64} (hcall : mm_Call l X 100 d [.ref 26] (mm_Λ, I, J) 0 0 (.inl (some (.int r))) (mm_Λ, I1, J1)) (hr : mm_Run l X 145 (d + 1) 708 [.retAddr 0, .ref 0, .ref 26, .ref 45, .int x4, .int x5, .int s0, .null] [.int r] (mm_Λ, I1, J1) mc ms o σ') : mm_Run l X 145 (d + 1) 702 [.retAddr 0, .ref 0, .ref 26, .ref 45, .int x4, .int x5, .null, .null] [.int s0] (mm_Λ, I, J) mc ms o σ' := by
  refine mm_istore d145_702 (by decide +kernel) ?_
  refine mm_aload_n (v := .ref 26) d145_704 rfl (Or.inl ⟨_, rfl⟩) ?_
  exact mm_callV0 (as := []) (S := []) d145_705 okm100 ln145_61 im100 se100 rfl ⟨_, _, rfl⟩ rfl rfl (Nat.le_of_ble_eq_true rfl) (Nat.le_of_ble_eq_true rfl) hcall hr
theorem b145_708 {l : Launch} {X : Nat × (Nat → Int32)} {d : Nat} {I : Nat → Nat → Int32} {J : Nat → Nat → Int64} {x4 : Int32} {x5 : Int32} {x6 : Int32} {s0 : Int32} {mc ms : Nat} {o : mm_O} {σ' : mm_S} (kt : s0 = x5 → mm_Run l X 145 (d + 1) 715 [.retAddr 0, .ref 0, .ref 26, .ref 45, .int x4, .int x5, .int x6, .null] [] (mm_Λ, I, J) mc ms o σ') (kf : ¬ (s0 = x5) → mm_Run l X 145 (d + 1) 713 [.retAddr 0, .ref 0, .ref 26, .ref 45, .int x4, .int x5, .int x6, .null] [] (mm_Λ, I, J) mc ms o σ') : mm_Run l X 145 (d + 1) 708 [.retAddr 0, .ref 0, .ref 26, .ref 45, .int x4, .int x5, .int x6, .null] [.int s0] (mm_Λ, I, J) mc ms o σ' := by
  refine mm_iload d145_708 rfl ?_
  refine mm_icmp (tgt := 715) d145_710 (by decide) (fun h => ?_) (fun h => ?_)
  · exact kt h
  · exact kf h
theorem b145_713 {l : Launch} {X : Nat × (Nat → Int32)} {d : Nat} {I : Nat → Nat → Int32} {J : Nat → Nat → Int64} {x4 : Int32} {x5 : Int32} {x6 : Int32} {mc ms : Nat}  : mm_Run l X 145 (d + 1) 713 [.retAddr 0, .ref 0, .ref 26, .ref 45, .int x4, .int x5, .int x6, .null] [] (mm_Λ, I, J) mc ms (.inl (some (.int 0))) (mm_Λ, I, J) := by
  refine mm_ic d145_713 ci0 ?_
  exact mm_zreturn d145_714 rfl (by decide)
theorem b145_715 {l : Launch} {X : Nat × (Nat → Int32)} {d : Nat} {I : Nat → Nat → Int32} {J : Nat → Nat → Int64} {x4 : Int32} {x5 : Int32} {x6 : Int32} {mc ms : Nat} {o : mm_O} {σ' : mm_S} (kt : ¬ x5 = 0 → mm_Run l X 145 (d + 1) 732 [.retAddr 0, .ref 0, .ref 26, .ref 45, .int x4, .int x5, .int x6, .null] [] (mm_Λ, I, J) mc ms o σ') (kf : ¬ (¬ x5 = 0) → mm_Run l X 145 (d + 1) 720 [.retAddr 0, .ref 0, .ref 26, .ref 45, .int x4, .int x5, .int x6, .null] [] (mm_Λ, I, J) mc ms o σ') : mm_Run l X 145 (d + 1) 715 [.retAddr 0, .ref 0, .ref 26, .ref 45, .int x4, .int x5, .int x6, .null] [] (mm_Λ, I, J) mc ms o σ' := by
  refine mm_iload d145_715 rfl ?_
  refine mm_if (tgt := 732) d145_717 (by decide) (fun h => ?_) (fun h => ?_)
  · exact kt h
  · exact kf h
theorem b145_720 {l : Launch} {X : Nat × (Nat → Int32)} {d : Nat} {I : Nat → Nat → Int32} {J : Nat → Nat → Int64} {x4 : Int32} {x5 : Int32} {x6 : Int32} {mc ms : Nat} {o : mm_O} {σ' : mm_S} (kt : (lg_cmp (J 45 0) (x6.toInt64)) = 0 → mm_Run l X 145 (d + 1) 732 [.retAddr 0, .ref 0, .ref 26, .ref 45, .int x4, .int x5, .int x6, .null] [] (mm_Λ, I, J) mc ms o σ') (kf : ¬ ((lg_cmp (J 45 0) (x6.toInt64)) = 0) → mm_Run l X 145 (d + 1) 730 [.retAddr 0, .ref 0, .ref 26, .ref 45, .int x4, .int x5, .int x6, .null] [] (mm_Λ, I, J) mc ms o σ') : mm_Run l X 145 (d + 1) 720 [.retAddr 0, .ref 0, .ref 26, .ref 45, .int x4, .int x5, .int x6, .null] [] (mm_Λ, I, J) mc ms o σ' := by
  refine mm_aload_n (v := .ref 45) d145_720 rfl (Or.inl ⟨_, rfl⟩) ?_
  refine mm_ic d145_721 ci0 ?_
  refine mm_laload d145_722 rfl (by unfold vp_in; decide) ?_
  refine mm_iload d145_723 rfl ?_
  refine mm_i2l d145_725 ?_
  refine mm_lcmp d145_726 ?_
  refine mm_if (tgt := 732) d145_727 (by decide) (fun h => ?_) (fun h => ?_)
  · exact kt h
  · exact kf h
theorem b145_730 {l : Launch} {X : Nat × (Nat → Int32)} {d : Nat} {I : Nat → Nat → Int32} {J : Nat → Nat → Int64} {x4 : Int32} {x5 : Int32} {x6 : Int32} {mc ms : Nat}  : mm_Run l X 145 (d + 1) 730 [.retAddr 0, .ref 0, .ref 26, .ref 45, .int x4, .int x5, .int x6, .null] [] (mm_Λ, I, J) mc ms (.inl (some (.int 0))) (mm_Λ, I, J) := by
  refine mm_ic d145_730 ci0 ?_
  exact mm_zreturn d145_731 rfl (by decide)
theorem b145_732 {l : Launch} {X : Nat × (Nat → Int32)} {d : Nat} {I : Nat → Nat → Int32} {J : Nat → Nat → Int64} {x4 : Int32} {x5 : Int32} {x6 : Int32} {mc ms : Nat} {o : mm_O} {σ' : mm_S} (hr : mm_Run l X 145 (d + 1) 972 [.retAddr 0, .ref 0, .ref 26, .ref 45, .int x4, .null, .null, .null] [] (mm_Λ, I, J) mc ms o σ') : mm_Run l X 145 (d + 1) 732 [.retAddr 0, .ref 0, .ref 26, .ref 45, .int x4, .int x5, .int x6, .null] [] (mm_Λ, I, J) mc ms o σ' := by
  refine mm_goto (tgt := 972) d145_732 (by decide) ?_
  exact mm_forget hr (by exact ⟨rfl, rfl, rfl, rfl, rfl, trivial⟩)
theorem b145_735 {l : Launch} {X : Nat × (Nat → Int32)} {d : Nat} {mc ms : Nat} {I : Nat → Nat → Int32} {J : Nat → Nat → Int64} {x4 : Int32} {o : mm_O} {σ' : mm_S} (i741 : vp_in (x4 + 1) X.1) {r : Int32} {I1 : Nat → Nat → Int32} {J1 : Nat → Nat → Int64} {mc1 ms1 : Nat} (hcall : mm_Call l X 72 d [.ref 0, .int (X.2 (x4 + 1).toNatClampNeg), .ref 45] (mm_Λ, I, J) mc1 ms1 (.inl (some (.int r))) (mm_Λ, I1, J1)) (hr : mm_Run l X 145 (d + 1) 746 [.retAddr 0, .ref 0, .ref 26, .ref 45, .int x4, .null, .null, .null] [.int r] (mm_Λ, I1, J1) mc ms o σ') : mm_Run l X 145 (d + 1) 735 [.retAddr 0, .ref 0, .ref 26, .ref 45, .int x4, .null, .null, .null] [] (mm_Λ, I, J) (mc1 + mc) (ms1 + ms) o σ' := by
  refine mm_aload_n (v := .ref 0) d145_735 rfl (Or.inl ⟨_, rfl⟩) ?_
  refine mm_aload_n (v := .retAddr 0) d145_736 rfl (Or.inr ⟨_, rfl⟩) ?_
  refine mm_iload d145_737 rfl ?_
  refine mm_ic d145_739 ci1 ?_
  refine mm_iadd d145_740 ?_
  refine mm_scload d145_741 i741 ?_
  refine mm_aload_n (v := .ref 45) d145_742 rfl (Or.inl ⟨_, rfl⟩) ?_
  exact mm_callSW (n := 3) (mc1 := mc1) (ms1 := ms1) (as := [.ref 0, .int (X.2 (x4 + 1).toNatClampNeg), .ref 45]) (S := []) d145_743 cw72 mw5 mw6 (by decide +kernel) (by decide +kernel) isw72 ln145_91 st72 rfl rfl (Nat.le_of_ble_eq_true rfl) (Nat.le_of_ble_eq_true rfl) hcall hr
theorem b145_746 {l : Launch} {X : Nat × (Nat → Int32)} {d : Nat} {I : Nat → Nat → Int32} {J : Nat → Nat → Int64} {x4 : Int32} {s0 : Int32} {mc ms : Nat} {o : mm_O} {σ' : mm_S} (i754 : vp_in (x4 + 1) X.1) {r : Int32} {I1 : Nat → Nat → Int32} {J1 : Nat → Nat → Int64} (hcall : mm_Call l X 130 d [.ref 26, .int (X.2 (x4 + 1).toNatClampNeg)] (mm_Λ, I, J) 0 0 (.inl (some (.int r))) (mm_Λ, I1, J1)) (hr : mm_Run l X 145 (d + 1) 758 [.retAddr 0, .ref 0, .ref 26, .ref 45, .int x4, .int s0, .null, .null] [.int r] (mm_Λ, I1, J1) mc ms o σ') : mm_Run l X 145 (d + 1) 746 [.retAddr 0, .ref 0, .ref 26, .ref 45, .int x4, .null, .null, .null] [.int s0] (mm_Λ, I, J) mc ms o σ' := by
  refine mm_istore d145_746 (by decide +kernel) ?_
  refine mm_aload_n (v := .ref 26) d145_748 rfl (Or.inl ⟨_, rfl⟩) ?_
  refine mm_aload_n (v := .retAddr 0) d145_749 rfl (Or.inr ⟨_, rfl⟩) ?_
  refine mm_iload d145_750 rfl ?_
  refine mm_ic d145_752 ci1 ?_
  refine mm_iadd d145_753 ?_
  refine mm_scload d145_754 i754 ?_
  exact mm_callV0 (as := [.int (X.2 (x4 + 1).toNatClampNeg)]) (S := []) d145_755 okm130 ln145_94 im130 se130 rfl ⟨_, _, rfl⟩ rfl rfl (Nat.le_of_ble_eq_true rfl) (Nat.le_of_ble_eq_true rfl) hcall hr
theorem b145_758 {l : Launch} {X : Nat × (Nat → Int32)} {d : Nat} {I : Nat → Nat → Int32} {J : Nat → Nat → Int64} {x4 : Int32} {x5 : Int32} {s0 : Int32} {mc ms : Nat} {o : mm_O} {σ' : mm_S} {r : Int32} {I1 : Nat → Nat → Int32} {J1 : Nat → Nat → Int64} (hcall : mm_Call l X 100 d [.ref 26] (mm_Λ, I, J) 0 0 (.inl (some (.int r))) (mm_Λ, I1, J1)) (hr : mm_Run l X 145 (d + 1) 764 [.retAddr 0, .ref 0, .ref 26, .ref 45, .int x4, .int x5, .int s0, .null] [.int r] (mm_Λ, I1, J1) mc ms o σ') : mm_Run l X 145 (d + 1) 758 [.retAddr 0, .ref 0, .ref 26, .ref 45, .int x4, .int x5, .null, .null] [.int s0] (mm_Λ, I, J) mc ms o σ' := by
  refine mm_istore d145_758 (by decide +kernel) ?_
  refine mm_aload_n (v := .ref 26) d145_760 rfl (Or.inl ⟨_, rfl⟩) ?_
  exact mm_callV0 (as := []) (S := []) d145_761 okm100 ln145_61 im100 se100 rfl ⟨_, _, rfl⟩ rfl rfl (Nat.le_of_ble_eq_true rfl) (Nat.le_of_ble_eq_true rfl) hcall hr
theorem b145_764 {l : Launch} {X : Nat × (Nat → Int32)} {d : Nat} {I : Nat → Nat → Int32} {J : Nat → Nat → Int64} {x4 : Int32} {x5 : Int32} {x6 : Int32} {s0 : Int32} {mc ms : Nat} {o : mm_O} {σ' : mm_S} (kt : s0 = x5 → mm_Run l X 145 (d + 1) 771 [.retAddr 0, .ref 0, .ref 26, .ref 45, .int x4, .int x5, .int x6, .null] [] (mm_Λ, I, J) mc ms o σ') (kf : ¬ (s0 = x5) → mm_Run l X 145 (d + 1) 769 [.retAddr 0, .ref 0, .ref 26, .ref 45, .int x4, .int x5, .int x6, .null] [] (mm_Λ, I, J) mc ms o σ') : mm_Run l X 145 (d + 1) 764 [.retAddr 0, .ref 0, .ref 26, .ref 45, .int x4, .int x5, .int x6, .null] [.int s0] (mm_Λ, I, J) mc ms o σ' := by
  refine mm_iload d145_764 rfl ?_
  refine mm_icmp (tgt := 771) d145_766 (by decide) (fun h => ?_) (fun h => ?_)
  · exact kt h
  · exact kf h
theorem b145_769 {l : Launch} {X : Nat × (Nat → Int32)} {d : Nat} {I : Nat → Nat → Int32} {J : Nat → Nat → Int64} {x4 : Int32} {x5 : Int32} {x6 : Int32} {mc ms : Nat}  : mm_Run l X 145 (d + 1) 769 [.retAddr 0, .ref 0, .ref 26, .ref 45, .int x4, .int x5, .int x6, .null] [] (mm_Λ, I, J) mc ms (.inl (some (.int 0))) (mm_Λ, I, J) := by
  refine mm_ic d145_769 ci0 ?_
  exact mm_zreturn d145_770 rfl (by decide)
theorem b145_771 {l : Launch} {X : Nat × (Nat → Int32)} {d : Nat} {I : Nat → Nat → Int32} {J : Nat → Nat → Int64} {x4 : Int32} {x5 : Int32} {x6 : Int32} {mc ms : Nat} {o : mm_O} {σ' : mm_S} (kt : ¬ x5 = 0 → mm_Run l X 145 (d + 1) 788 [.retAddr 0, .ref 0, .ref 26, .ref 45, .int x4, .int x5, .int x6, .null] [] (mm_Λ, I, J) mc ms o σ') (kf : ¬ (¬ x5 = 0) → mm_Run l X 145 (d + 1) 776 [.retAddr 0, .ref 0, .ref 26, .ref 45, .int x4, .int x5, .int x6, .null] [] (mm_Λ, I, J) mc ms o σ') : mm_Run l X 145 (d + 1) 771 [.retAddr 0, .ref 0, .ref 26, .ref 45, .int x4, .int x5, .int x6, .null] [] (mm_Λ, I, J) mc ms o σ' := by
  refine mm_iload d145_771 rfl ?_
  refine mm_if (tgt := 788) d145_773 (by decide) (fun h => ?_) (fun h => ?_)
  · exact kt h
  · exact kf h
theorem b145_776 {l : Launch} {X : Nat × (Nat → Int32)} {d : Nat} {I : Nat → Nat → Int32} {J : Nat → Nat → Int64} {x4 : Int32} {x5 : Int32} {x6 : Int32} {mc ms : Nat} {o : mm_O} {σ' : mm_S} (kt : (lg_cmp (J 45 0) (x6.toInt64)) = 0 → mm_Run l X 145 (d + 1) 788 [.retAddr 0, .ref 0, .ref 26, .ref 45, .int x4, .int x5, .int x6, .null] [] (mm_Λ, I, J) mc ms o σ') (kf : ¬ ((lg_cmp (J 45 0) (x6.toInt64)) = 0) → mm_Run l X 145 (d + 1) 786 [.retAddr 0, .ref 0, .ref 26, .ref 45, .int x4, .int x5, .int x6, .null] [] (mm_Λ, I, J) mc ms o σ') : mm_Run l X 145 (d + 1) 776 [.retAddr 0, .ref 0, .ref 26, .ref 45, .int x4, .int x5, .int x6, .null] [] (mm_Λ, I, J) mc ms o σ' := by
  refine mm_aload_n (v := .ref 45) d145_776 rfl (Or.inl ⟨_, rfl⟩) ?_
  refine mm_ic d145_777 ci0 ?_
  refine mm_laload d145_778 rfl (by unfold vp_in; decide) ?_
  refine mm_iload d145_779 rfl ?_
  refine mm_i2l d145_781 ?_
  refine mm_lcmp d145_782 ?_
  refine mm_if (tgt := 788) d145_783 (by decide) (fun h => ?_) (fun h => ?_)
  · exact kt h
  · exact kf h
theorem b145_786 {l : Launch} {X : Nat × (Nat → Int32)} {d : Nat} {I : Nat → Nat → Int32} {J : Nat → Nat → Int64} {x4 : Int32} {x5 : Int32} {x6 : Int32} {mc ms : Nat}  : mm_Run l X 145 (d + 1) 786 [.retAddr 0, .ref 0, .ref 26, .ref 45, .int x4, .int x5, .int x6, .null] [] (mm_Λ, I, J) mc ms (.inl (some (.int 0))) (mm_Λ, I, J) := by
  refine mm_ic d145_786 ci0 ?_
  exact mm_zreturn d145_787 rfl (by decide)
theorem b145_788 {l : Launch} {X : Nat × (Nat → Int32)} {d : Nat} {I : Nat → Nat → Int32} {J : Nat → Nat → Int64} {x4 : Int32} {x5 : Int32} {x6 : Int32} {mc ms : Nat} {o : mm_O} {σ' : mm_S} (hr : mm_Run l X 145 (d + 1) 972 [.retAddr 0, .ref 0, .ref 26, .ref 45, .int x4, .null, .null, .null] [] (mm_Λ, I, J) mc ms o σ') : mm_Run l X 145 (d + 1) 788 [.retAddr 0, .ref 0, .ref 26, .ref 45, .int x4, .int x5, .int x6, .null] [] (mm_Λ, I, J) mc ms o σ' := by
  refine mm_goto (tgt := 972) d145_788 (by decide) ?_
  exact mm_forget hr (by exact ⟨rfl, rfl, rfl, rfl, rfl, trivial⟩)
theorem b145_791 {l : Launch} {X : Nat × (Nat → Int32)} {d : Nat} {I : Nat → Nat → Int32} {J : Nat → Nat → Int64} {x4 : Int32} {mc ms : Nat} {o : mm_O} {σ' : mm_S} {I1 : Nat → Nat → Int32} {J1 : Nat → Nat → Int64} (hcall : mm_Call l X 11 d [.ref 0] (mm_Λ, I, J) 0 0 (.inl none) (mm_Λ, I1, J1)) (hr : mm_Run l X 145 (d + 1) 795 [.retAddr 0, .ref 0, .ref 26, .ref 45, .int x4, .null, .null, .null] [] (mm_Λ, I1, J1) mc ms o σ') : mm_Run l X 145 (d + 1) 791 [.retAddr 0, .ref 0, .ref 26, .ref 45, .int x4, .null, .null, .null] [] (mm_Λ, I, J) mc ms o σ' := by
  refine mm_aload_n (v := .ref 0) d145_791 rfl (Or.inl ⟨_, rfl⟩) ?_
  exact mm_callV0 (as := []) (S := []) d145_792 okm11 ln145_95 im11 se11 rfl ⟨_, _, rfl⟩ rfl rfl (Nat.le_of_ble_eq_true rfl) (Nat.le_of_ble_eq_true rfl) hcall hr
theorem b145_795 {l : Launch} {X : Nat × (Nat → Int32)} {d : Nat} {I : Nat → Nat → Int32} {J : Nat → Nat → Int64} {x4 : Int32} {mc ms : Nat} {o : mm_O} {σ' : mm_S} {I1 : Nat → Nat → Int32} {J1 : Nat → Nat → Int64} (hcall : mm_Call l X 131 d [.ref 26] (mm_Λ, I, J) 0 0 (.inl none) (mm_Λ, I1, J1)) (hr : mm_Run l X 145 (d + 1) 799 [.retAddr 0, .ref 0, .ref 26, .ref 45, .int x4, .null, .null, .null] [] (mm_Λ, I1, J1) mc ms o σ') : mm_Run l X 145 (d + 1) 795 [.retAddr 0, .ref 0, .ref 26, .ref 45, .int x4, .null, .null, .null] [] (mm_Λ, I, J) mc ms o σ' := by
  refine mm_aload_n (v := .ref 26) d145_795 rfl (Or.inl ⟨_, rfl⟩) ?_
  exact mm_callV0 (as := []) (S := []) d145_796 okm131 ln145_98 im131 se131 rfl ⟨_, _, rfl⟩ rfl rfl (Nat.le_of_ble_eq_true rfl) (Nat.le_of_ble_eq_true rfl) hcall hr
theorem b145_799 {l : Launch} {X : Nat × (Nat → Int32)} {d : Nat} {I : Nat → Nat → Int32} {J : Nat → Nat → Int64} {x4 : Int32} {mc ms : Nat} {o : mm_O} {σ' : mm_S} (hr : mm_Run l X 145 (d + 1) 972 [.retAddr 0, .ref 0, .ref 26, .ref 45, .int x4, .null, .null, .null] [] (mm_Λ, I, J) mc ms o σ') : mm_Run l X 145 (d + 1) 799 [.retAddr 0, .ref 0, .ref 26, .ref 45, .int x4, .null, .null, .null] [] (mm_Λ, I, J) mc ms o σ' := by
  refine mm_goto (tgt := 972) d145_799 (by decide) ?_
  exact hr
theorem b145_802 {l : Launch} {X : Nat × (Nat → Int32)} {d : Nat} {mc ms : Nat} {I : Nat → Nat → Int32} {J : Nat → Nat → Int64} {x4 : Int32} {o : mm_O} {σ' : mm_S} (i808 : vp_in (x4 + 1) X.1) (i814 : vp_in (x4 + 2) X.1) {r : Int32} {I1 : Nat → Nat → Int32} {J1 : Nat → Nat → Int64} {mc1 ms1 : Nat} (hcall : mm_Call l X 77 d [.ref 0, .int (X.2 (x4 + 1).toNatClampNeg), .int (X.2 (x4 + 2).toNatClampNeg), .ref 45] (mm_Λ, I, J) mc1 ms1 (.inl (some (.int r))) (mm_Λ, I1, J1)) (hr : mm_Run l X 145 (d + 1) 819 [.retAddr 0, .ref 0, .ref 26, .ref 45, .int x4, .null, .null, .null] [.int r] (mm_Λ, I1, J1) mc ms o σ') : mm_Run l X 145 (d + 1) 802 [.retAddr 0, .ref 0, .ref 26, .ref 45, .int x4, .null, .null, .null] [] (mm_Λ, I, J) (mc1 + mc) (ms1 + ms) o σ' := by
  refine mm_aload_n (v := .ref 0) d145_802 rfl (Or.inl ⟨_, rfl⟩) ?_
  refine mm_aload_n (v := .retAddr 0) d145_803 rfl (Or.inr ⟨_, rfl⟩) ?_
  refine mm_iload d145_804 rfl ?_
  refine mm_ic d145_806 ci1 ?_
  refine mm_iadd d145_807 ?_
  refine mm_scload d145_808 i808 ?_
  refine mm_aload_n (v := .retAddr 0) d145_809 rfl (Or.inr ⟨_, rfl⟩) ?_
  refine mm_iload d145_810 rfl ?_
  refine mm_ic d145_812 ci2 ?_
  refine mm_iadd d145_813 ?_
  refine mm_scload d145_814 i814 ?_
  refine mm_aload_n (v := .ref 45) d145_815 rfl (Or.inl ⟨_, rfl⟩) ?_
  exact mm_callSW (n := 4) (mc1 := mc1) (ms1 := ms1) (as := [.ref 0, .int (X.2 (x4 + 1).toNatClampNeg), .int (X.2 (x4 + 2).toNatClampNeg), .ref 45]) (S := []) d145_816 cw77 mw5 mw6 (by decide +kernel) (by decide +kernel) isw77 ln145_99 st77 rfl rfl (Nat.le_of_ble_eq_true rfl) (Nat.le_of_ble_eq_true rfl) hcall hr
theorem b145_819 {l : Launch} {X : Nat × (Nat → Int32)} {d : Nat} {I : Nat → Nat → Int32} {J : Nat → Nat → Int64} {x4 : Int32} {s0 : Int32} {mc ms : Nat} {o : mm_O} {σ' : mm_S} (i827 : vp_in (x4 + 1) X.1) (i833 : vp_in (x4 + 2) X.1) {r : Int32} {I1 : Nat → Nat → Int32} {J1 : Nat → Nat → Int64} (hcall : mm_Call l X 132 d [.ref 26, .int (X.2 (x4 + 1).toNatClampNeg), .int (X.2 (x4 + 2).toNatClampNeg)] (mm_Λ, I, J) 0 0 (.inl (some (.int r))) (mm_Λ, I1, J1)) (hr : mm_Run l X 145 (d + 1) 837 [.retAddr 0, .ref 0, .ref 26, .ref 45, .int x4, .int s0, .null, .null] [.int r] (mm_Λ, I1, J1) mc ms o σ') : mm_Run l X 145 (d + 1) 819 [.retAddr 0, .ref 0, .ref 26, .ref 45, .int x4, .null, .null, .null] [.int s0] (mm_Λ, I, J) mc ms o σ' := by
  refine mm_istore d145_819 (by decide +kernel) ?_
  refine mm_aload_n (v := .ref 26) d145_821 rfl (Or.inl ⟨_, rfl⟩) ?_
  refine mm_aload_n (v := .retAddr 0) d145_822 rfl (Or.inr ⟨_, rfl⟩) ?_
  refine mm_iload d145_823 rfl ?_
  refine mm_ic d145_825 ci1 ?_
  refine mm_iadd d145_826 ?_
  refine mm_scload d145_827 i827 ?_
  refine mm_aload_n (v := .retAddr 0) d145_828 rfl (Or.inr ⟨_, rfl⟩) ?_
  refine mm_iload d145_829 rfl ?_
  refine mm_ic d145_831 ci2 ?_
  refine mm_iadd d145_832 ?_
  refine mm_scload d145_833 i833 ?_
  exact mm_callV0 (as := [.int (X.2 (x4 + 1).toNatClampNeg), .int (X.2 (x4 + 2).toNatClampNeg)]) (S := []) d145_834 okm132 ln145_101 im132 se132 rfl ⟨_, _, rfl⟩ rfl rfl (Nat.le_of_ble_eq_true rfl) (Nat.le_of_ble_eq_true rfl) hcall hr
theorem b145_837 {l : Launch} {X : Nat × (Nat → Int32)} {d : Nat} {I : Nat → Nat → Int32} {J : Nat → Nat → Int64} {x4 : Int32} {x5 : Int32} {s0 : Int32} {mc ms : Nat} {o : mm_O} {σ' : mm_S} {r : Int32} {I1 : Nat → Nat → Int32} {J1 : Nat → Nat → Int64} (hcall : mm_Call l X 100 d [.ref 26] (mm_Λ, I, J) 0 0 (.inl (some (.int r))) (mm_Λ, I1, J1)) (hr : mm_Run l X 145 (d + 1) 843 [.retAddr 0, .ref 0, .ref 26, .ref 45, .int x4, .int x5, .int s0, .null] [.int r] (mm_Λ, I1, J1) mc ms o σ') : mm_Run l X 145 (d + 1) 837 [.retAddr 0, .ref 0, .ref 26, .ref 45, .int x4, .int x5, .null, .null] [.int s0] (mm_Λ, I, J) mc ms o σ' := by
  refine mm_istore d145_837 (by decide +kernel) ?_
  refine mm_aload_n (v := .ref 26) d145_839 rfl (Or.inl ⟨_, rfl⟩) ?_
  exact mm_callV0 (as := []) (S := []) d145_840 okm100 ln145_61 im100 se100 rfl ⟨_, _, rfl⟩ rfl rfl (Nat.le_of_ble_eq_true rfl) (Nat.le_of_ble_eq_true rfl) hcall hr
theorem b145_843 {l : Launch} {X : Nat × (Nat → Int32)} {d : Nat} {I : Nat → Nat → Int32} {J : Nat → Nat → Int64} {x4 : Int32} {x5 : Int32} {x6 : Int32} {s0 : Int32} {mc ms : Nat} {o : mm_O} {σ' : mm_S} (kt : s0 = x5 → mm_Run l X 145 (d + 1) 850 [.retAddr 0, .ref 0, .ref 26, .ref 45, .int x4, .int x5, .int x6, .null] [] (mm_Λ, I, J) mc ms o σ') (kf : ¬ (s0 = x5) → mm_Run l X 145 (d + 1) 848 [.retAddr 0, .ref 0, .ref 26, .ref 45, .int x4, .int x5, .int x6, .null] [] (mm_Λ, I, J) mc ms o σ') : mm_Run l X 145 (d + 1) 843 [.retAddr 0, .ref 0, .ref 26, .ref 45, .int x4, .int x5, .int x6, .null] [.int s0] (mm_Λ, I, J) mc ms o σ' := by
  refine mm_iload d145_843 rfl ?_
  refine mm_icmp (tgt := 850) d145_845 (by decide) (fun h => ?_) (fun h => ?_)
  · exact kt h
  · exact kf h
theorem b145_848 {l : Launch} {X : Nat × (Nat → Int32)} {d : Nat} {I : Nat → Nat → Int32} {J : Nat → Nat → Int64} {x4 : Int32} {x5 : Int32} {x6 : Int32} {mc ms : Nat}  : mm_Run l X 145 (d + 1) 848 [.retAddr 0, .ref 0, .ref 26, .ref 45, .int x4, .int x5, .int x6, .null] [] (mm_Λ, I, J) mc ms (.inl (some (.int 0))) (mm_Λ, I, J) := by
  refine mm_ic d145_848 ci0 ?_
  exact mm_zreturn d145_849 rfl (by decide)
theorem b145_850 {l : Launch} {X : Nat × (Nat → Int32)} {d : Nat} {I : Nat → Nat → Int32} {J : Nat → Nat → Int64} {x4 : Int32} {x5 : Int32} {x6 : Int32} {mc ms : Nat} {o : mm_O} {σ' : mm_S} (kt : ¬ x5 = 0 → mm_Run l X 145 (d + 1) 867 [.retAddr 0, .ref 0, .ref 26, .ref 45, .int x4, .int x5, .int x6, .null] [] (mm_Λ, I, J) mc ms o σ') (kf : ¬ (¬ x5 = 0) → mm_Run l X 145 (d + 1) 855 [.retAddr 0, .ref 0, .ref 26, .ref 45, .int x4, .int x5, .int x6, .null] [] (mm_Λ, I, J) mc ms o σ') : mm_Run l X 145 (d + 1) 850 [.retAddr 0, .ref 0, .ref 26, .ref 45, .int x4, .int x5, .int x6, .null] [] (mm_Λ, I, J) mc ms o σ' := by
  refine mm_iload d145_850 rfl ?_
  refine mm_if (tgt := 867) d145_852 (by decide) (fun h => ?_) (fun h => ?_)
  · exact kt h
  · exact kf h
theorem b145_855 {l : Launch} {X : Nat × (Nat → Int32)} {d : Nat} {I : Nat → Nat → Int32} {J : Nat → Nat → Int64} {x4 : Int32} {x5 : Int32} {x6 : Int32} {mc ms : Nat} {o : mm_O} {σ' : mm_S} (kt : (lg_cmp (J 45 0) (x6.toInt64)) = 0 → mm_Run l X 145 (d + 1) 867 [.retAddr 0, .ref 0, .ref 26, .ref 45, .int x4, .int x5, .int x6, .null] [] (mm_Λ, I, J) mc ms o σ') (kf : ¬ ((lg_cmp (J 45 0) (x6.toInt64)) = 0) → mm_Run l X 145 (d + 1) 865 [.retAddr 0, .ref 0, .ref 26, .ref 45, .int x4, .int x5, .int x6, .null] [] (mm_Λ, I, J) mc ms o σ') : mm_Run l X 145 (d + 1) 855 [.retAddr 0, .ref 0, .ref 26, .ref 45, .int x4, .int x5, .int x6, .null] [] (mm_Λ, I, J) mc ms o σ' := by
  refine mm_aload_n (v := .ref 45) d145_855 rfl (Or.inl ⟨_, rfl⟩) ?_
  refine mm_ic d145_856 ci0 ?_
  refine mm_laload d145_857 rfl (by unfold vp_in; decide) ?_
  refine mm_iload d145_858 rfl ?_
  refine mm_i2l d145_860 ?_
  refine mm_lcmp d145_861 ?_
  refine mm_if (tgt := 867) d145_862 (by decide) (fun h => ?_) (fun h => ?_)
  · exact kt h
  · exact kf h
theorem b145_865 {l : Launch} {X : Nat × (Nat → Int32)} {d : Nat} {I : Nat → Nat → Int32} {J : Nat → Nat → Int64} {x4 : Int32} {x5 : Int32} {x6 : Int32} {mc ms : Nat}  : mm_Run l X 145 (d + 1) 865 [.retAddr 0, .ref 0, .ref 26, .ref 45, .int x4, .int x5, .int x6, .null] [] (mm_Λ, I, J) mc ms (.inl (some (.int 0))) (mm_Λ, I, J) := by
  refine mm_ic d145_865 ci0 ?_
  exact mm_zreturn d145_866 rfl (by decide)
theorem b145_867 {l : Launch} {X : Nat × (Nat → Int32)} {d : Nat} {I : Nat → Nat → Int32} {J : Nat → Nat → Int64} {x4 : Int32} {x5 : Int32} {x6 : Int32} {mc ms : Nat} {o : mm_O} {σ' : mm_S} (hr : mm_Run l X 145 (d + 1) 972 [.retAddr 0, .ref 0, .ref 26, .ref 45, .int x4, .null, .null, .null] [] (mm_Λ, I, J) mc ms o σ') : mm_Run l X 145 (d + 1) 867 [.retAddr 0, .ref 0, .ref 26, .ref 45, .int x4, .int x5, .int x6, .null] [] (mm_Λ, I, J) mc ms o σ' := by
  refine mm_goto (tgt := 972) d145_867 (by decide) ?_
  exact mm_forget hr (by exact ⟨rfl, rfl, rfl, rfl, rfl, trivial⟩)
theorem b145_870 {l : Launch} {X : Nat × (Nat → Int32)} {d : Nat} {mc ms : Nat} {I : Nat → Nat → Int32} {J : Nat → Nat → Int64} {x4 : Int32} {o : mm_O} {σ' : mm_S} (i876 : vp_in (x4 + 1) X.1) (i882 : vp_in (x4 + 2) X.1) {r : Int32} {I1 : Nat → Nat → Int32} {J1 : Nat → Nat → Int64} {mc1 ms1 : Nat} (hcall : mm_Call l X 89 d [.ref 0, .int (X.2 (x4 + 1).toNatClampNeg), .int (X.2 (x4 + 2).toNatClampNeg), .ref 45] (mm_Λ, I, J) mc1 ms1 (.inl (some (.int r))) (mm_Λ, I1, J1)) (hr : mm_Run l X 145 (d + 1) 887 [.retAddr 0, .ref 0, .ref 26, .ref 45, .int x4, .null, .null, .null] [.int r] (mm_Λ, I1, J1) mc ms o σ') : mm_Run l X 145 (d + 1) 870 [.retAddr 0, .ref 0, .ref 26, .ref 45, .int x4, .null, .null, .null] [] (mm_Λ, I, J) (mc1 + mc) (ms1 + ms) o σ' := by
  refine mm_aload_n (v := .ref 0) d145_870 rfl (Or.inl ⟨_, rfl⟩) ?_
  refine mm_aload_n (v := .retAddr 0) d145_871 rfl (Or.inr ⟨_, rfl⟩) ?_
  refine mm_iload d145_872 rfl ?_
  refine mm_ic d145_874 ci1 ?_
  refine mm_iadd d145_875 ?_
  refine mm_scload d145_876 i876 ?_
  refine mm_aload_n (v := .retAddr 0) d145_877 rfl (Or.inr ⟨_, rfl⟩) ?_
  refine mm_iload d145_878 rfl ?_
  refine mm_ic d145_880 ci2 ?_
  refine mm_iadd d145_881 ?_
  refine mm_scload d145_882 i882 ?_
  refine mm_aload_n (v := .ref 45) d145_883 rfl (Or.inl ⟨_, rfl⟩) ?_
  exact mm_callSW (n := 4) (mc1 := mc1) (ms1 := ms1) (as := [.ref 0, .int (X.2 (x4 + 1).toNatClampNeg), .int (X.2 (x4 + 2).toNatClampNeg), .ref 45]) (S := []) d145_884 cw89 mw5 mw6 (by decide +kernel) (by decide +kernel) isw89 ln145_102 st89 rfl rfl (Nat.le_of_ble_eq_true rfl) (Nat.le_of_ble_eq_true rfl) hcall hr
theorem b145_887 {l : Launch} {X : Nat × (Nat → Int32)} {d : Nat} {I : Nat → Nat → Int32} {J : Nat → Nat → Int64} {x4 : Int32} {s0 : Int32} {mc ms : Nat} {o : mm_O} {σ' : mm_S} (i895 : vp_in (x4 + 1) X.1) (i901 : vp_in (x4 + 2) X.1) {r : Int32} {I1 : Nat → Nat → Int32} {J1 : Nat → Nat → Int64} (hcall : mm_Call l X 138 d [.ref 26, .int (X.2 (x4 + 1).toNatClampNeg), .int (X.2 (x4 + 2).toNatClampNeg)] (mm_Λ, I, J) 0 0 (.inl (some (.int r))) (mm_Λ, I1, J1)) (hr : mm_Run l X 145 (d + 1) 905 [.retAddr 0, .ref 0, .ref 26, .ref 45, .int x4, .int s0, .null, .null] [.int r] (mm_Λ, I1, J1) mc ms o σ') : mm_Run l X 145 (d + 1) 887 [.retAddr 0, .ref 0, .ref 26, .ref 45, .int x4, .null, .null, .null] [.int s0] (mm_Λ, I, J) mc ms o σ' := by
  refine mm_istore d145_887 (by decide +kernel) ?_
  refine mm_aload_n (v := .ref 26) d145_889 rfl (Or.inl ⟨_, rfl⟩) ?_
  refine mm_aload_n (v := .retAddr 0) d145_890 rfl (Or.inr ⟨_, rfl⟩) ?_
  refine mm_iload d145_891 rfl ?_
  refine mm_ic d145_893 ci1 ?_
  refine mm_iadd d145_894 ?_
  refine mm_scload d145_895 i895 ?_
  refine mm_aload_n (v := .retAddr 0) d145_896 rfl (Or.inr ⟨_, rfl⟩) ?_
  refine mm_iload d145_897 rfl ?_
  refine mm_ic d145_899 ci2 ?_
  refine mm_iadd d145_900 ?_
  refine mm_scload d145_901 i901 ?_
  exact mm_callV0 (as := [.int (X.2 (x4 + 1).toNatClampNeg), .int (X.2 (x4 + 2).toNatClampNeg)]) (S := []) d145_902 okm138 ln145_104 im138 se138 rfl ⟨_, _, rfl⟩ rfl rfl (Nat.le_of_ble_eq_true rfl) (Nat.le_of_ble_eq_true rfl) hcall hr
theorem b145_905 {l : Launch} {X : Nat × (Nat → Int32)} {d : Nat} {I : Nat → Nat → Int32} {J : Nat → Nat → Int64} {x4 : Int32} {x5 : Int32} {s0 : Int32} {mc ms : Nat} {o : mm_O} {σ' : mm_S} {r : Int32} {I1 : Nat → Nat → Int32} {J1 : Nat → Nat → Int64} (hcall : mm_Call l X 100 d [.ref 26] (mm_Λ, I, J) 0 0 (.inl (some (.int r))) (mm_Λ, I1, J1)) (hr : mm_Run l X 145 (d + 1) 911 [.retAddr 0, .ref 0, .ref 26, .ref 45, .int x4, .int x5, .int s0, .null] [.int r] (mm_Λ, I1, J1) mc ms o σ') : mm_Run l X 145 (d + 1) 905 [.retAddr 0, .ref 0, .ref 26, .ref 45, .int x4, .int x5, .null, .null] [.int s0] (mm_Λ, I, J) mc ms o σ' := by
  refine mm_istore d145_905 (by decide +kernel) ?_
  refine mm_aload_n (v := .ref 26) d145_907 rfl (Or.inl ⟨_, rfl⟩) ?_
  exact mm_callV0 (as := []) (S := []) d145_908 okm100 ln145_61 im100 se100 rfl ⟨_, _, rfl⟩ rfl rfl (Nat.le_of_ble_eq_true rfl) (Nat.le_of_ble_eq_true rfl) hcall hr
theorem b145_911 {l : Launch} {X : Nat × (Nat → Int32)} {d : Nat} {I : Nat → Nat → Int32} {J : Nat → Nat → Int64} {x4 : Int32} {x5 : Int32} {x6 : Int32} {s0 : Int32} {mc ms : Nat} {o : mm_O} {σ' : mm_S} (kt : s0 = x5 → mm_Run l X 145 (d + 1) 918 [.retAddr 0, .ref 0, .ref 26, .ref 45, .int x4, .int x5, .int x6, .null] [] (mm_Λ, I, J) mc ms o σ') (kf : ¬ (s0 = x5) → mm_Run l X 145 (d + 1) 916 [.retAddr 0, .ref 0, .ref 26, .ref 45, .int x4, .int x5, .int x6, .null] [] (mm_Λ, I, J) mc ms o σ') : mm_Run l X 145 (d + 1) 911 [.retAddr 0, .ref 0, .ref 26, .ref 45, .int x4, .int x5, .int x6, .null] [.int s0] (mm_Λ, I, J) mc ms o σ' := by
  refine mm_iload d145_911 rfl ?_
  refine mm_icmp (tgt := 918) d145_913 (by decide) (fun h => ?_) (fun h => ?_)
  · exact kt h
  · exact kf h
theorem b145_916 {l : Launch} {X : Nat × (Nat → Int32)} {d : Nat} {I : Nat → Nat → Int32} {J : Nat → Nat → Int64} {x4 : Int32} {x5 : Int32} {x6 : Int32} {mc ms : Nat}  : mm_Run l X 145 (d + 1) 916 [.retAddr 0, .ref 0, .ref 26, .ref 45, .int x4, .int x5, .int x6, .null] [] (mm_Λ, I, J) mc ms (.inl (some (.int 0))) (mm_Λ, I, J) := by
  refine mm_ic d145_916 ci0 ?_
  exact mm_zreturn d145_917 rfl (by decide)
theorem b145_918 {l : Launch} {X : Nat × (Nat → Int32)} {d : Nat} {I : Nat → Nat → Int32} {J : Nat → Nat → Int64} {x4 : Int32} {x5 : Int32} {x6 : Int32} {mc ms : Nat} {o : mm_O} {σ' : mm_S} (kt : ¬ x5 = 0 → mm_Run l X 145 (d + 1) 942 [.retAddr 0, .ref 0, .ref 26, .ref 45, .int x4, .int x5, .int x6, .null] [] (mm_Λ, I, J) mc ms o σ') (kf : ¬ (¬ x5 = 0) → mm_Run l X 145 (d + 1) 923 [.retAddr 0, .ref 0, .ref 26, .ref 45, .int x4, .int x5, .int x6, .null] [] (mm_Λ, I, J) mc ms o σ') : mm_Run l X 145 (d + 1) 918 [.retAddr 0, .ref 0, .ref 26, .ref 45, .int x4, .int x5, .int x6, .null] [] (mm_Λ, I, J) mc ms o σ' := by
  refine mm_iload d145_918 rfl ?_
  refine mm_if (tgt := 942) d145_920 (by decide) (fun h => ?_) (fun h => ?_)
  · exact kt h
  · exact kf h
theorem b145_923 {l : Launch} {X : Nat × (Nat → Int32)} {d : Nat} {I : Nat → Nat → Int32} {J : Nat → Nat → Int64} {x4 : Int32} {x5 : Int32} {x6 : Int32} {mc ms : Nat} {o : mm_O} {σ' : mm_S} (kt : x6 = 0 → mm_Run l X 145 (d + 1) 935 [.retAddr 0, .ref 0, .ref 26, .ref 45, .int x4, .int x5, .int x6, .null] [.long (J 45 0)] (mm_Λ, I, J) mc ms o σ') (kf : ¬ (x6 = 0) → mm_Run l X 145 (d + 1) 931 [.retAddr 0, .ref 0, .ref 26, .ref 45, .int x4, .int x5, .int x6, .null] [.long (J 45 0)] (mm_Λ, I, J) mc ms o σ') : mm_Run l X 145 (d + 1) 923 [.retAddr 0, .ref 0, .ref 26, .ref 45, .int x4, .int x5, .int x6, .null] [] (mm_Λ, I, J) mc ms o σ' := by
  refine mm_aload_n (v := .ref 45) d145_923 rfl (Or.inl ⟨_, rfl⟩) ?_
  refine mm_ic d145_924 ci0 ?_
  refine mm_laload d145_925 rfl (by unfold vp_in; decide) ?_
  refine mm_iload d145_926 rfl ?_
  refine mm_if (tgt := 935) d145_928 (by decide) (fun h => ?_) (fun h => ?_)
  · exact kt h
  · exact kf h
theorem b145_931 {l : Launch} {X : Nat × (Nat → Int32)} {d : Nat} {I : Nat → Nat → Int32} {J : Nat → Nat → Int64} {x4 : Int32} {x5 : Int32} {x6 : Int32} {s0 : Int64} {mc ms : Nat} {o : mm_O} {σ' : mm_S} (hr : mm_Run l X 145 (d + 1) 936 [.retAddr 0, .ref 0, .ref 26, .ref 45, .int x4, .int x5, .int x6, .null] [.long 1, .long s0] (mm_Λ, I, J) mc ms o σ') : mm_Run l X 145 (d + 1) 931 [.retAddr 0, .ref 0, .ref 26, .ref 45, .int x4, .int x5, .int x6, .null] [.long s0] (mm_Λ, I, J) mc ms o σ' := by
  refine mm_lc d145_931 lc1 ?_
  refine mm_goto (tgt := 936) d145_932 (by decide) ?_
  exact hr
theorem b145_935 {l : Launch} {X : Nat × (Nat → Int32)} {d : Nat} {I : Nat → Nat → Int32} {J : Nat → Nat → Int64} {x4 : Int32} {x5 : Int32} {x6 : Int32} {s0 : Int64} {mc ms : Nat} {o : mm_O} {σ' : mm_S} (hr : mm_Run l X 145 (d + 1) 936 [.retAddr 0, .ref 0, .ref 26, .ref 45, .int x4, .int x5, .int x6, .null] [.long 0, .long s0] (mm_Λ, I, J) mc ms o σ') : mm_Run l X 145 (d + 1) 935 [.retAddr 0, .ref 0, .ref 26, .ref 45, .int x4, .int x5, .int x6, .null] [.long s0] (mm_Λ, I, J) mc ms o σ' := by
  refine mm_lc d145_935 lc0 ?_
  exact hr
theorem b145_936 {l : Launch} {X : Nat × (Nat → Int32)} {d : Nat} {I : Nat → Nat → Int32} {J : Nat → Nat → Int64} {x4 : Int32} {x5 : Int32} {x6 : Int32} {s0 : Int64} {s1 : Int64} {mc ms : Nat} {o : mm_O} {σ' : mm_S} (kt : (lg_cmp s1 s0) = 0 → mm_Run l X 145 (d + 1) 942 [.retAddr 0, .ref 0, .ref 26, .ref 45, .int x4, .int x5, .int x6, .null] [] (mm_Λ, I, J) mc ms o σ') (kf : ¬ ((lg_cmp s1 s0) = 0) → mm_Run l X 145 (d + 1) 940 [.retAddr 0, .ref 0, .ref 26, .ref 45, .int x4, .int x5, .int x6, .null] [] (mm_Λ, I, J) mc ms o σ') : mm_Run l X 145 (d + 1) 936 [.retAddr 0, .ref 0, .ref 26, .ref 45, .int x4, .int x5, .int x6, .null] [.long s0, .long s1] (mm_Λ, I, J) mc ms o σ' := by
  refine mm_lcmp d145_936 ?_
  refine mm_if (tgt := 942) d145_937 (by decide) (fun h => ?_) (fun h => ?_)
  · exact kt h
  · exact kf h
theorem b145_940 {l : Launch} {X : Nat × (Nat → Int32)} {d : Nat} {I : Nat → Nat → Int32} {J : Nat → Nat → Int64} {x4 : Int32} {x5 : Int32} {x6 : Int32} {mc ms : Nat}  : mm_Run l X 145 (d + 1) 940 [.retAddr 0, .ref 0, .ref 26, .ref 45, .int x4, .int x5, .int x6, .null] [] (mm_Λ, I, J) mc ms (.inl (some (.int 0))) (mm_Λ, I, J) := by
  refine mm_ic d145_940 ci0 ?_
  exact mm_zreturn d145_941 rfl (by decide)
theorem b145_942 {l : Launch} {X : Nat × (Nat → Int32)} {d : Nat} {I : Nat → Nat → Int32} {J : Nat → Nat → Int64} {x4 : Int32} {x5 : Int32} {x6 : Int32} {mc ms : Nat} {o : mm_O} {σ' : mm_S} (hr : mm_Run l X 145 (d + 1) 972 [.retAddr 0, .ref 0, .ref 26, .ref 45, .int x4, .null, .null, .null] [] (mm_Λ, I, J) mc ms o σ') : mm_Run l X 145 (d + 1) 942 [.retAddr 0, .ref 0, .ref 26, .ref 45, .int x4, .int x5, .int x6, .null] [] (mm_Λ, I, J) mc ms o σ' := by
  refine mm_goto (tgt := 972) d145_942 (by decide) ?_
  exact mm_forget hr (by exact ⟨rfl, rfl, rfl, rfl, rfl, trivial⟩)
theorem b145_945 {l : Launch} {X : Nat × (Nat → Int32)} {d : Nat} {I : Nat → Nat → Int32} {J : Nat → Nat → Int64} {x4 : Int32} {mc ms : Nat} {o : mm_O} {σ' : mm_S} {r : Int32} {I1 : Nat → Nat → Int32} {J1 : Nat → Nat → Int64} (hcall : mm_Call l X 13 d [.ref 0] (mm_Λ, I, J) 0 0 (.inl (some (.int r))) (mm_Λ, I1, J1)) (hr : mm_Run l X 145 (d + 1) 949 [.retAddr 0, .ref 0, .ref 26, .ref 45, .int x4, .null, .null, .null] [.int r] (mm_Λ, I1, J1) mc ms o σ') : mm_Run l X 145 (d + 1) 945 [.retAddr 0, .ref 0, .ref 26, .ref 45, .int x4, .null, .null, .null] [] (mm_Λ, I, J) mc ms o σ' := by
  refine mm_aload_n (v := .ref 0) d145_945 rfl (Or.inl ⟨_, rfl⟩) ?_
  exact mm_callV0 (as := []) (S := []) d145_946 okm13 ln145_105 im13 se13 rfl ⟨_, _, rfl⟩ rfl rfl (Nat.le_of_ble_eq_true rfl) (Nat.le_of_ble_eq_true rfl) hcall hr
theorem b145_949 {l : Launch} {X : Nat × (Nat → Int32)} {d : Nat} {I : Nat → Nat → Int32} {J : Nat → Nat → Int64} {x4 : Int32} {s0 : Int32} {mc ms : Nat} {o : mm_O} {σ' : mm_S} {r : Int32} {I1 : Nat → Nat → Int32} {J1 : Nat → Nat → Int64} (hcall : mm_Call l X 143 d [.ref 26] (mm_Λ, I, J) 0 0 (.inl (some (.int r))) (mm_Λ, I1, J1)) (hr : mm_Run l X 145 (d + 1) 953 [.retAddr 0, .ref 0, .ref 26, .ref 45, .int x4, .null, .null, .null] [.int r, .int s0] (mm_Λ, I1, J1) mc ms o σ') : mm_Run l X 145 (d + 1) 949 [.retAddr 0, .ref 0, .ref 26, .ref 45, .int x4, .null, .null, .null] [.int s0] (mm_Λ, I, J) mc ms o σ' := by
  refine mm_aload_n (v := .ref 26) d145_949 rfl (Or.inl ⟨_, rfl⟩) ?_
  exact mm_callV0 (as := []) (S := [.int s0]) d145_950 okm143 ln145_108 im143 se143 rfl ⟨_, _, rfl⟩ rfl rfl (Nat.le_of_ble_eq_true rfl) (Nat.le_of_ble_eq_true rfl) hcall hr
theorem b145_953 {l : Launch} {X : Nat × (Nat → Int32)} {d : Nat} {I : Nat → Nat → Int32} {J : Nat → Nat → Int64} {x4 : Int32} {s0 : Int32} {s1 : Int32} {mc ms : Nat} {o : mm_O} {σ' : mm_S} (kt : s1 = s0 → mm_Run l X 145 (d + 1) 972 [.retAddr 0, .ref 0, .ref 26, .ref 45, .int x4, .null, .null, .null] [] (mm_Λ, I, J) mc ms o σ') (kf : ¬ (s1 = s0) → mm_Run l X 145 (d + 1) 956 [.retAddr 0, .ref 0, .ref 26, .ref 45, .int x4, .null, .null, .null] [] (mm_Λ, I, J) mc ms o σ') : mm_Run l X 145 (d + 1) 953 [.retAddr 0, .ref 0, .ref 26, .ref 45, .int x4, .null, .null, .null] [.int s0, .int s1] (mm_Λ, I, J) mc ms o σ' := by
  refine mm_icmp (tgt := 972) d145_953 (by decide) (fun h => ?_) (fun h => ?_)
  · exact kt h
  · exact kf h
theorem b145_956 {l : Launch} {X : Nat × (Nat → Int32)} {d : Nat} {I : Nat → Nat → Int32} {J : Nat → Nat → Int64} {x4 : Int32} {mc ms : Nat}  : mm_Run l X 145 (d + 1) 956 [.retAddr 0, .ref 0, .ref 26, .ref 45, .int x4, .null, .null, .null] [] (mm_Λ, I, J) mc ms (.inl (some (.int 0))) (mm_Λ, I, J) := by
  refine mm_ic d145_956 ci0 ?_
  exact mm_zreturn d145_957 rfl (by decide)
theorem b145_958 {l : Launch} {X : Nat × (Nat → Int32)} {d : Nat} {I : Nat → Nat → Int32} {J : Nat → Nat → Int64} {x4 : Int32} {mc ms : Nat} {o : mm_O} {σ' : mm_S} {r : Int64} {I1 : Nat → Nat → Int32} {J1 : Nat → Nat → Int64} (hcall : mm_Call l X 14 d [.ref 0] (mm_Λ, I, J) 0 0 (.inl (some (.long r))) (mm_Λ, I1, J1)) (hr : mm_Run l X 145 (d + 1) 962 [.retAddr 0, .ref 0, .ref 26, .ref 45, .int x4, .null, .null, .null] [.long r] (mm_Λ, I1, J1) mc ms o σ') : mm_Run l X 145 (d + 1) 958 [.retAddr 0, .ref 0, .ref 26, .ref 45, .int x4, .null, .null, .null] [] (mm_Λ, I, J) mc ms o σ' := by
  refine mm_aload_n (v := .ref 0) d145_958 rfl (Or.inl ⟨_, rfl⟩) ?_
  exact mm_callV0 (as := []) (S := []) d145_959 okm14 ln145_109 im14 se14 rfl ⟨_, _, rfl⟩ rfl rfl (Nat.le_of_ble_eq_true rfl) (Nat.le_of_ble_eq_true rfl) hcall hr
theorem b145_962 {l : Launch} {X : Nat × (Nat → Int32)} {d : Nat} {I : Nat → Nat → Int32} {J : Nat → Nat → Int64} {x4 : Int32} {s0 : Int64} {mc ms : Nat} {o : mm_O} {σ' : mm_S} {r : Int64} {I1 : Nat → Nat → Int32} {J1 : Nat → Nat → Int64} (hcall : mm_Call l X 144 d [.ref 26] (mm_Λ, I, J) 0 0 (.inl (some (.long r))) (mm_Λ, I1, J1)) (hr : mm_Run l X 145 (d + 1) 966 [.retAddr 0, .ref 0, .ref 26, .ref 45, .int x4, .null, .null, .null] [.long r, .long s0] (mm_Λ, I1, J1) mc ms o σ') : mm_Run l X 145 (d + 1) 962 [.retAddr 0, .ref 0, .ref 26, .ref 45, .int x4, .null, .null, .null] [.long s0] (mm_Λ, I, J) mc ms o σ' := by
  refine mm_aload_n (v := .ref 26) d145_962 rfl (Or.inl ⟨_, rfl⟩) ?_
  exact mm_callV0 (as := []) (S := [.long s0]) d145_963 okm144 ln145_113 im144 se144 rfl ⟨_, _, rfl⟩ rfl rfl (Nat.le_of_ble_eq_true rfl) (Nat.le_of_ble_eq_true rfl) hcall hr
theorem b145_966 {l : Launch} {X : Nat × (Nat → Int32)} {d : Nat} {I : Nat → Nat → Int32} {J : Nat → Nat → Int64} {x4 : Int32} {s0 : Int64} {s1 : Int64} {mc ms : Nat} {o : mm_O} {σ' : mm_S} (kt : (lg_cmp s1 s0) = 0 → mm_Run l X 145 (d + 1) 972 [.retAddr 0, .ref 0, .ref 26, .ref 45, .int x4, .null, .null, .null] [] (mm_Λ, I, J) mc ms o σ') (kf : ¬ ((lg_cmp s1 s0) = 0) → mm_Run l X 145 (d + 1) 970 [.retAddr 0, .ref 0, .ref 26, .ref 45, .int x4, .null, .null, .null] [] (mm_Λ, I, J) mc ms o σ') : mm_Run l X 145 (d + 1) 966 [.retAddr 0, .ref 0, .ref 26, .ref 45, .int x4, .null, .null, .null] [.long s0, .long s1] (mm_Λ, I, J) mc ms o σ' := by
  refine mm_lcmp d145_966 ?_
  refine mm_if (tgt := 972) d145_967 (by decide) (fun h => ?_) (fun h => ?_)
  · exact kt h
  · exact kf h
theorem b145_970 {l : Launch} {X : Nat × (Nat → Int32)} {d : Nat} {I : Nat → Nat → Int32} {J : Nat → Nat → Int64} {x4 : Int32} {mc ms : Nat}  : mm_Run l X 145 (d + 1) 970 [.retAddr 0, .ref 0, .ref 26, .ref 45, .int x4, .null, .null, .null] [] (mm_Λ, I, J) mc ms (.inl (some (.int 0))) (mm_Λ, I, J) := by
  refine mm_ic d145_970 ci0 ?_
  exact mm_zreturn d145_971 rfl (by decide)
theorem b145_972 {l : Launch} {X : Nat × (Nat → Int32)} {d : Nat} {I : Nat → Nat → Int32} {J : Nat → Nat → Int64} {x4 : Int32} {mc ms : Nat} {o : mm_O} {σ' : mm_S} (hr : mm_Run l X 145 (d + 1) 23 [.retAddr 0, .ref 0, .ref 26, .ref 45, .int (x4 + 6), .null, .null, .null] [] (mm_Λ, I, J) mc ms o σ') : mm_Run l X 145 (d + 1) 972 [.retAddr 0, .ref 0, .ref 26, .ref 45, .int x4, .null, .null, .null] [] (mm_Λ, I, J) mc ms o σ' := by
  refine mm_ii d145_972 ci6 rfl (by decide +kernel) ?_
  refine mm_goto (tgt := 23) d145_975 (by decide) ?_
  exact hr
theorem b145_978 {l : Launch} {X : Nat × (Nat → Int32)} {d : Nat} {I : Nat → Nat → Int32} {J : Nat → Nat → Int64} {x4 : Int32} {mc ms : Nat}  : mm_Run l X 145 (d + 1) 978 [.retAddr 0, .ref 0, .ref 26, .ref 45, .int x4, .null, .null, .null] [] (mm_Λ, I, J) mc ms (.inl (some (.int 1))) (mm_Λ, I, J) := by
  refine mm_ic d145_978 ci1 ?_
  exact mm_zreturn d145_979 rfl (by decide)
