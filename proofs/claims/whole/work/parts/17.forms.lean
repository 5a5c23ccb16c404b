/-! ===== the same rules in the forms that the printed blocks use ===== -/
section MMF
variable {l : Launch} {X : Nat × (Nat → Int32)} {k d pc : Nat} {L S : List Value} {σ σ1 σ' : mm_S} {mc ms : Nat} {o : mm_O}
theorem mm_ic {n : Int} {v : Int32} (hd : decode (mm_cb k) pc = .ok (.iconst n, 1)) (hv : Int32.ofInt n = v) (hr : mm_Run l X k d (pc + 1) L (.int v :: S) σ mc ms o σ') : mm_Run l X k d pc L S σ mc ms o σ' := by
  subst hv; exact mm_iconst hd hr
theorem mm_bi {n : Int} {v : Int32} (hd : decode (mm_cb k) pc = .ok (.bipush n, 2)) (hv : (Int8.ofInt n).toInt32 = v) (hr : mm_Run l X k d (pc + 2) L (.int v :: S) σ mc ms o σ') : mm_Run l X k d pc L S σ mc ms o σ' := by
  subst hv; exact mm_bipush hd hr
theorem mm_si {n : Int} {v : Int32} (hd : decode (mm_cb k) pc = .ok (.sipush n, 3)) (hv : (Int16.ofInt n).toInt32 = v) (hr : mm_Run l X k d (pc + 3) L (.int v :: S) σ mc ms o σ') : mm_Run l X k d pc L S σ mc ms o σ' := by
  subst hv; exact mm_sipush hd hr
theorem mm_lc {n : Fin 2} {v : Int64} (hd : decode (mm_cb k) pc = .ok (.lconst n, 1)) (hv : Int64.ofNat (n : Nat) = v) (hr : mm_Run l X k d (pc + 1) L (.long v :: S) σ mc ms o σ') : mm_Run l X k d pc L S σ mc ms o σ' := by
  subst hv; exact mm_lconst hd hr
theorem mm_ii {i : Nat} {n : Int} {x c : Int32} (hd : decode (mm_cb k) pc = .ok (.iinc i n, 3)) (hn : Int32.ofInt n = c) (hl : mm_nth L i = .int x) (hi : i < mm_ml k) (hr : mm_Run l X k d (pc + 3) (mm_st1 i (.int (x + c)) L) S σ mc ms o σ') : mm_Run l X k d pc L S σ mc ms o σ' := by
  subst hn; exact mm_iinc hd hl hi hr
theorem mm_minl {idx : Nat} {x y : Int64} (hd : decode (mm_cb k) pc = .ok (.invokestatic idx, 3)) (w1 : Cond.methodLink (mm_yn k).cls idx Lib.MathLoose.min_long.x ∈ mm_tb) (w2 : Cond.static Lib.MathLoose.min_long.x ∈ mm_tb) (w3 : Cond.initialized "java/lang/Math" ∈ mm_tb) (w4 : Cond.code Lib.MathLoose.min_long.x Lib.MathLoose.min_long.code 4 (some .long) ∈ mm_tb)
    (hw : (S.map fun v => v.category).sum ≤ 8) (hr : mm_Run l X k d (pc + 3) L (.long (if y < x then y else x) :: S) σ mc ms o σ') : mm_Run l X k d pc L (.long y :: .long x :: S) σ mc ms o σ' := by
  intro p e R s m args below meth c D A cI cL φ hc H locs cells slots ρ ws ls st hW hP hD hS hL hV h1 h2
  obtain ⟨_, st, rfl, rfl, hV1⟩ := hV.cons
  obtain ⟨_, st, rfl, rfl, hV2⟩ := hV1.cons
  have hts := hc.2.2.2.2.2.2.1
  have a11 := hc.2.2.2.2.2.2.2.2.2.2.1
  have a12 := hc.2.2.2.2.2.2.2.2.2.2.2.1
  exact va_mmin_long hc.1 hc.2.1 (hc.2.2.1.trans hL.1.1.symm) hc.2.2.2.2.2.1 (hts _ w1) (hts _ w2) (hts _ w3) (hts _ w4) (by omega) (by rw [hV2.cats]; omega) (by omega) (by omega) hd (hr hc hW hP hD hS hL ⟨rfl, hV2⟩ h1 h2)
theorem mm_callS0 {k' idx n : Nat} {as S0 : List Value} {v : Option Value} (hd : decode (mm_cb k) pc = .ok (.invokestatic idx, 3)) (hm : mm_okm k' n) (hl : Cond.methodLink (mm_yn k).cls idx (mm_yn k') ∈ mm_tb) (hs : Cond.static (mm_yn k') ∈ mm_tb)
    (hst : S0 = as.reverse ++ S) (hn : as.length = n) (hcat : (as.map fun v => v.category).sum ≤ mm_ml k') (hw : (S.map fun v => v.category).sum ≤ 8)
    (hcall : mm_Call l X k' d as σ 0 0 (.inl v) σ1) (hr : mm_Run l X k (d + 1) (pc + 3) L (v.toList ++ S) σ1 mc ms o σ') : mm_Run l X k (d + 1) pc L S0 σ mc ms o σ' := by
  have h : mm_Run l X k (d + 1) pc L S0 σ (0 + mc) (0 + ms) o σ' := mm_callS hd hm hl hs hst hn hcat hw hcall hr
  rw [Nat.zero_add, Nat.zero_add] at h
  exact h
theorem mm_callSN0 {k' idx n : Nat} {as S0 : List Value} {v : Option Value} {host : String} (hd : decode (mm_cb k) pc = .ok (.invokestatic idx, 3)) (hm : mm_okm k' n) (hl : Cond.methodLinkNest (mm_yn k).cls idx (mm_yn k') host ∈ mm_tb) (hs : Cond.static (mm_yn k') ∈ mm_tb)
    (hst : S0 = as.reverse ++ S) (hn : as.length = n) (hcat : (as.map fun v => v.category).sum ≤ mm_ml k') (hw : (S.map fun v => v.category).sum ≤ 8)
    (hcall : mm_Call l X k' d as σ 0 0 (.inl v) σ1) (hr : mm_Run l X k (d + 1) (pc + 3) L (v.toList ++ S) σ1 mc ms o σ') : mm_Run l X k (d + 1) pc L S0 σ mc ms o σ' := by
  have h : mm_Run l X k (d + 1) pc L S0 σ (0 + mc) (0 + ms) o σ' := mm_callSN hd hm hl hs hst hn hcat hw hcall hr
  rw [Nat.zero_add, Nat.zero_add] at h
  exact h
theorem mm_callV0 {k' idx n p0 ci : Nat} {rs : List Value} {as S0 : List Value} {v : Option Value} (hd : decode (mm_cb k) pc = .ok (.invokevirtual idx, 3)) (hm : mm_okm k' n) (hl : Cond.methodLink (mm_yn k).cls idx (mm_yn k') ∈ mm_tb) (hi : Cond.instanceMethod (mm_yn k') ∈ mm_tb)
    (hse : Cond.selects (mm_yn k').cls (mm_yn k') (mm_yn k') ∈ mm_tb) (hkd : mm_kd σ.1 p0 = (2, ci, rs)) (hci : ∃ T N, mm_cl[ci]? = some ((mm_yn k').cls, T, N))
    (hst : S0 = as.reverse ++ .ref p0 :: S) (hn : as.length = n) (hcat : ((Value.ref p0 :: as).map fun v => v.category).sum ≤ mm_ml k') (hw : (S.map fun v => v.category).sum ≤ 8)
    (hcall : mm_Call l X k' d (.ref p0 :: as) σ 0 0 (.inl v) σ1) (hr : mm_Run l X k (d + 1) (pc + 3) L (v.toList ++ S) σ1 mc ms o σ') : mm_Run l X k (d + 1) pc L S0 σ mc ms o σ' := by
  have h : mm_Run l X k (d + 1) pc L S0 σ (0 + mc) (0 + ms) o σ' := mm_callV hd hm hl hi hse hkd hci hst hn hcat hw hcall hr
  rw [Nat.zero_add, Nat.zero_add] at h
  exact h
end MMF
