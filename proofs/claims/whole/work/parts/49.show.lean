/-! ===== show on both sides ===== -/
theorem gL63 {n : Nat} (h : n < 2 ^ 63) : (lN n).toInt = (n : Int) := lg_ofNat_toInt h
theorem lN_of {z : Int64} (h : ¬ z < 0) : ∃ n, n < 2 ^ 63 ∧ z = lN n := by
  have h0 : 0 ≤ z.toInt := by
    have := Int64.not_lt.mp h
    rw [Int64.le_iff_toInt_le] at this
    simpa using this
  have h1 : z.toInt < 2 ^ 63 := Int64.toInt_lt z
  refine ⟨z.toInt.toNat, by omega, ?_⟩
  rw [← Int64.toInt_inj, gL63 (by omega)]
  omega
theorem isT_of {t : Nat} (h : t < 6) : isT (nI t) := ⟨nI_pos (by omega), nI_lt (b := 6) h (by omega)⟩
theorem isD_of {t : Nat} (h : t < 5) : isD (nI t) := ⟨nI_pos (by omega), nI_le (b := 4) (by omega) (by omega)⟩
theorem isS_of {t : Nat} (h1 : 1 ≤ t) (h : t ≤ 12) : isS (nI t) := ⟨nI_nlt (b := 1) h1 (by omega), nI_le (b := 12) h (by omega)⟩
def wbar (cnt fld fty : Nat → Nat) (x y : Int32) (z : Int64) (k : Int32) : Prop :=
  (¬ isT x ∧ k = 1) ∨ (isT x ∧ ¬ isD y ∧ k = 2) ∨ (∃ t e, t < 6 ∧ e < 5 ∧ x = nI t ∧ y = nI e ∧ ¬ (¬ z < 0 ∧ z < lN (DN cnt fld fty (e + 1) t)) ∧ k = 3) ∨ (∃ t e n, t < 6 ∧ e < 5 ∧ x = nI t ∧ y = nI e ∧ z = lN n ∧ n < DN cnt fld fty (e + 1) t ∧ k = 0)
theorem wbar_ex (cnt fld fty : Nat → Nat) (x y : Int32) (z : Int64) : ∃ k, wbar cnt fld fty x y z k := by
  by_cases h1 : isT x
  · by_cases h2 : isD y
    · obtain ⟨t, ht, e1⟩ := isT_nI h1
      obtain ⟨e, he, e2⟩ := isD_nI h2
      by_cases h3 : ¬ z < 0 ∧ z < lN (DN cnt fld fty (e + 1) t)
      · obtain ⟨n, hn, e3⟩ := lN_of h3.1
        have hm := mny_lt
        have hD := DN_le cnt fld fty (e + 1) t
        refine ⟨0, Or.inr (Or.inr (Or.inr ⟨t, e, n, ht, he, e1, e2, e3, ?_, rfl⟩))⟩
        have h4 := h3.2
        rw [e3, Int64.lt_iff_toInt_lt, gL63 hn, gL63 (by omega)] at h4
        omega
      · exact ⟨3, Or.inr (Or.inr (Or.inl ⟨t, e, ht, he, e1, e2, h3, rfl⟩))⟩
    · exact ⟨2, Or.inr (Or.inl ⟨h1, h2, rfl⟩)⟩
  · exact ⟨1, Or.inl ⟨h1, rfl⟩⟩
section SHOW
variable {l : Launch} {X : Nat × (Nat → Int32)} {d : Nat} {I : Nat → Nat → Int32} {J : Nat → Nat → Int64} {mc ms : Nat} {cnt fld fty : Nat → Nat} {x y k : Int32} {z : Int64}
theorem h_show (hT : TI cnt fld fty I J) (hb : wbar cnt fld fty x y z k) : ∃ I1 J1, mm_Call l X 38 (d + 9) [.ref 0, .int x, .int y, .long z, .ref 45] (mm_Λ, I, J) 1 6 (.inl (some (.int k))) (mm_Λ, I1, J1) ∧ (k ≠ 0 → I1 = I ∧ J1 = J) ∧
    (k = 0 → ∃ t e n, t < 6 ∧ e < 5 ∧ x = nI t ∧ y = nI e ∧ z = lN n ∧ n < DN cnt fld fty (e + 1) t ∧ RW (I1 11 1) (I1 12) (preT fld fty e (bld cnt fld fty (e + 1) t n) t) ∧ (preT fld fty e (bld cnt fld fty (e + 1) t n) t).length ≤ 121 ∧ (∀ r, r ∉ [11, 12, 14, 15, 16] → I1 r = I r) ∧ J1 = mm_set J 45 0 (nI (preT fld fty e (bld cnt fld fty (e + 1) t n) t).length).toInt64) := by
  rcases hb with ⟨h1, rfl⟩ | ⟨h1, h2, rfl⟩ | ⟨t, e, ht, he, rfl, rfl, h3, rfl⟩ | ⟨t, e, n, ht, he, rfl, rfl, rfl, hn, rfl⟩
  · exact ⟨I, J, b38_0c0 (mc := 0) (ms := 0) (b39_0t (c17_no h1)) b38_15, fun _ => ⟨rfl, rfl⟩, fun q => absurd q (by decide)⟩
  · exact ⟨I, J, b38_0c1 (mc := 0) (ms := 0) (b39_0 (c17_ok h1) (b39_4t (c37_no h2))) b38_19, fun _ => ⟨rfl, rfl⟩, fun q => absurd q (by decide)⟩
  · have r := @c27 l X (d + 7) I J 0 0 t e ht he
    rw [(hT.2.2.1 e t he ht).1, DT_N] at r
    exact ⟨I, J, b38_0c2 (mc := 0) (ms := 0) (b39_0 (c17_ok (isT_of ht)) (b39_4 (c37_ok (isD_of he)) (b39_8 r (b39_18t (c40_no h3))))) b38_23, fun _ => ⟨rfl, rfl⟩, fun q => absurd q (by decide)⟩
  · have hm := mny_lt
    have hD := DN_le cnt fld fty (e + 1) t
    have r := @c27 l X (d + 7) I J 0 0 t e ht he
    rw [(hT.2.2.1 e t he ht).1, DT_N] at r
    obtain ⟨I1, r1, hH, f1⟩ := @c41 l X (d + 7 - e - 3) I J 0 0 cnt fld fty t e n he ht hn hT
    rw [show d + 7 - e - 3 + e + 3 = d + 7 by omega] at r1
    obtain ⟨I2, r2, hR, f2⟩ := @c47 l X (d + 7 - e - 3) I1 J 0 0 cnt fld fty t e (bld cnt fld fty (e + 1) t n) hT.1.tw (by omega) ht hH
    rw [show d + 7 - e - 3 + e + 3 = d + 7 by omega] at r2
    have r3 := @c51 l X (d + 7) I2 J 0 0
    rw [hR.1] at r3
    have hz : ¬ lN n < 0 := fun q => absurd ((gL_lt (b := 0) (by omega) (by omega)).mp q) (by omega)
    have hlen : (preT fld fty e (bld cnt fld fty (e + 1) t n) t).length ≤ 121 := by
      have hb : bnd e ≤ 121 := by
        match e, he with
        | 0, _ => decide
        | 1, _ => decide
        | 2, _ => decide
        | 3, _ => decide
        | 4, _ => decide
      exact Nat.le_trans (preT_len hT.1.tw e _ t 0 ht hH) hb
    exact ⟨I2, mm_set J 45 0 _, b38_0 (b39_0 (c17_ok (isT_of ht)) (b39_4 (c37_ok (isD_of he)) (b39_8 r (b39_18 (c40_ok ⟨hz, (gL_lt (by omega) (by omega)).mpr hn⟩) (b39_21 r1 (b39_31 r2 (b39_42 r3 b39_49))))))) (b38_10 (by unfold vp_in; decide) b38_27), fun q => absurd rfl q, fun _ => ⟨t, e, n, ht, he, rfl, rfl, rfl, hn, hR, hlen, fun r hr => by
      simp only [List.mem_cons, List.not_mem_nil, or_false, not_or] at hr
      rw [f2 r hr.1 hr.2.1, f1 r hr.2.2.1 hr.2.2.2.1 hr.2.2.2.2], rfl⟩⟩
theorem m_show (hT : TI cnt fld fty I J) (hb : wbar cnt fld fty x y z k) : ∃ b I1 J1, mm_Call l X 116 (d + 4) [.ref 26, .int x, .int y, .long z] (mm_Λ, I, J) mc ms (.inl (some (.int b))) (mm_Λ, I1, J1) ∧ I1 26 0 = k ∧ (∀ r, r ∉ [26, 32, 33, 34, 35, 36] → I1 r = I r) ∧ (∀ r, r ∉ [30, 37] → J1 r = J r) ∧ (∀ i, i ∉ [0, 8, 10] → I1 26 i = I 26 i) ∧
    (k ≠ 0 → I1 26 8 = I 26 8 ∧ I1 34 = I 34) ∧
    (k = 0 → ∀ t e n, t < 6 → e < 5 → x = nI t → y = nI e → z = lN n → n < DN cnt fld fty (e + 1) t → RW (I1 26 8) (I1 34) (preT fld fty e (bld cnt fld fty (e + 1) t n) t) ∧ b = nI (preT fld fty e (bld cnt fld fty (e + 1) t n) t).length) := by
  have fr : ∀ k : Int32, (∀ p, p ∉ [26, 32, 33, 34, 35, 36] → mm_set I 26 0 k p = I p) ∧ (∀ i, i ∉ [0, 8, 10] → mm_set I 26 0 k 26 i = I 26 i) ∧ (mm_set I 26 0 k 26 8 = I 26 8 ∧ mm_set I 26 0 k 34 = I 34) := fun k => ⟨fun p hp => mm_set_ne (by simp only [List.mem_cons, not_or] at hp; exact hp.1), fun i hi => by simp only [List.mem_cons, not_or] at hi; simp [mm_set, hi.1], by simp [mm_set], mm_set_ne (by decide)⟩
  have st2 : ∀ k : Int32, mm_set (mm_set I 26 0 0) 26 0 k = mm_set I 26 0 k := fun k => by
    funext q j
    simp only [mm_set]
    by_cases h1 : q = 26 <;> by_cases h2 : j = 0 <;> simp [h1, h2]
  rcases hb with ⟨h1, rfl⟩ | ⟨h1, h2, rfl⟩ | ⟨t, e, ht, he, rfl, rfl, h3, rfl⟩ | ⟨t, e, n, ht, he, rfl, rfl, rfl, hn, rfl⟩
  · exact ⟨0, _, J, b116_0 (c104 (Or.inl ⟨h1, rfl⟩)) (b116_6 (fun q => absurd q (by decide)) (fun _ => b116_16)), mm_at, (fr 1).1, fun _ _ => rfl, (fr 1).2.1, fun _ => (fr 1).2.2, fun q => absurd q (by decide)⟩
  · exact ⟨0, _, J, b116_0 (c104 (Or.inr (Or.inl ⟨h1, h2, rfl⟩))) (b116_6 (fun q => absurd q (by decide)) (fun _ => b116_16)), mm_at, (fr 2).1, fun _ _ => rfl, (fr 2).2.1, fun _ => (fr 2).2.2, fun q => absurd q (by decide)⟩
  · have hT' : TV (mm_set I 26 0 0) 27 28 29 cnt fld fty := hT.2.1.of (mm_set_ne (by decide)) (mm_set_ne (by decide)) (mm_set_ne (by decide))
    obtain ⟨J2, r, hp⟩ := @c105 l X (d + 1) (mm_set I 26 0 0) J 0 0 cnt fld fty hT'
    have bad : mm_Run l X 116 (d + 4) 55 [.ref 26, .int (nI t), .int (nI e), .long z, .null] [.ref 26] (mm_Λ, mm_set I 26 0 0, J2) mc ms (.inl (some (.int 0))) (mm_Λ, mm_set I 26 0 3, J2) := by
      refine b116_55 (b116_60 (fun q => absurd q (by decide)) (fun _ => ?_))
      rw [st2]
      exact b116_70
    refine ⟨0, _, J2, b116_0 (c104 (Or.inr (Or.inr ⟨isT_of ht, isD_of he, rfl⟩))) (b116_6 (fun _ => b116_18 r (b116_22 (fun _ => bad) (fun q => b116_29 ?_ (fun _ => bad) (fun q2 => absurd ⟨fun z1 => q ((lgclt _ _).mpr z1), ?_⟩ h3)))) (fun q => absurd (by decide) q)), mm_at, (fr 3).1, fun p hp' => hp.1 p (by simp only [List.mem_cons, not_or] at hp'; exact hp'.1), (fr 3).2.1, fun _ => (fr 3).2.2, fun q => absurd q (by decide)⟩
    · rw [jx6, nI_1]; exact ix_in (by omega) (by omega)
    · have q3 := Int32.not_le.mp q2
      rw [jx6, nI_1, ix_cl (by omega), show 6 * t + e + 1 = 6 * t + (e + 1) by omega, hp.2 (e + 1) t (by omega) ht (Or.inl (by omega))] at q3
      exact (lgclt _ _).mp q3
  · have hm := mny_lt
    have hD := DN_le cnt fld fty (e + 1) t
    have hT' : TV (mm_set I 26 0 0) 27 28 29 cnt fld fty := hT.2.1.of (mm_set_ne (by decide)) (mm_set_ne (by decide)) (mm_set_ne (by decide))
    obtain ⟨J2, r, hp⟩ := @c105 l X (d + 1) (mm_set I 26 0 0) J 0 0 cnt fld fty hT'
    have hz : ¬ lN n < 0 := fun q => absurd ((gL_lt (b := 0) (by omega) (by omega)).mp q) (by omega)
    have hMJ : MJ cnt fld fty J2 := fun e' u a b => hp.2 e' u a b (Or.inl a)
    obtain ⟨I3, J3, r3, hH, s3⟩ := @c117 l X d (mm_set (mm_set I 26 0 0) 26 0 0) J2 0 0 cnt fld fty t n e he ht hn (by rw [st2]; exact hT') hMJ
    obtain ⟨I4, J4, r4, hR, s4⟩ := @c122 l X (d + 2) I3 J3 0 0 cnt fld fty t e (bld cnt fld fty (e + 1) t n) (by omega) ht (by
      rw [st2] at s3
      exact hT'.of (s3.2.1 27 (by decide)) (s3.2.1 28 (by decide)) (s3.2.1 29 (by decide))) hH
    rw [st2] at s3
    have hdp : J2 30 (nI (6 * t + e + 1)).toNatClampNeg = lN (DN cnt fld fty (e + 1) t) := by
      rw [ix_cl (by omega)]
      exact hp.2 (e + 1) t (by omega) ht (Or.inl (by omega))
    have hlt : lN n < lN (DN cnt fld fty (e + 1) t) := (gL_lt (by omega) (by omega)).mpr hn
    have q83 := @b116_83 l X (d + 3) I4 J4 (nI t) (nI e) (lN n) mc ms
    refine ⟨I4 26 8, I4, J4, b116_0 (c104 (Or.inr (Or.inr ⟨isT_of ht, isD_of he, rfl⟩))) (b116_6 (fun _ => b116_18 r (b116_22 (fun q => absurd ((lgclt _ _).mp q) hz) (fun _ => b116_29 ?_ (fun q => absurd ?_ (Int32.not_lt.mpr q)) (fun _ => b116_47 (fun _ => b116_59 (b116_60 (fun _ => b116_72 r3 (b116_79 r4 q83)) (fun q => absurd (by decide) q))) (fun q => absurd ((lgclt _ _).mpr ?_) q))))) (fun q => absurd (by decide) q)), ?_, fun p hp' => ?_, fun p hp' => ?_, fun i hi => ?_, fun q => absurd rfl q, fun _ t' e' n' ht' he' ex ey ez hn' => ?_⟩
    · rw [jx6, nI_1]; exact ix_in (by omega) (by omega)
    · rw [jx6, nI_1, hdp]; exact (lgclt _ _).mpr hlt
    · rw [lit_M]; exact (gL_lt (by omega) (by omega)).mpr (by omega)
    · rw [s4.2.2.1 0 (by decide), s3.2.2.1 0 (by decide)]; exact mm_at
    · have hp2 : p ∉ 26 :: 35 :: 36 :: [34] ∧ p ∉ 26 :: 35 :: 36 :: [32, 33] ∧ p ≠ 26 := by
        simp only [List.mem_cons, List.not_mem_nil, or_false, not_or] at hp' ⊢
        exact ⟨⟨hp'.1, hp'.2.2.2.2.1, hp'.2.2.2.2.2, hp'.2.2.2.1⟩, ⟨hp'.1, hp'.2.2.2.2.1, hp'.2.2.2.2.2, hp'.2.1, hp'.2.2.1⟩, hp'.1⟩
      rw [s4.2.1 p hp2.1, s3.2.1 p hp2.2.1, mm_set_ne hp2.2.2]
    · simp only [List.mem_cons, List.not_mem_nil, or_false, not_or] at hp'
      rw [s4.2.2.2 p hp'.2, s3.2.2.2 p hp'.2, hp.1 p hp'.1]
    · simp only [List.mem_cons, List.not_mem_nil, or_false, not_or] at hi
      rw [s4.2.2.1 i (by simp only [List.mem_cons, List.not_mem_nil, or_false, not_or]; exact ⟨hi.2.2, hi.2.1⟩), s3.2.2.1 i (by simp only [List.mem_cons, List.not_mem_nil, or_false]; exact hi.2.2)]
      simp [mm_set, hi.1]
    · have e1 : t = t' := (nI_eq (by omega) (by omega)).mp ex
      have e2 : e = e' := (nI_eq (by omega) (by omega)).mp ey
      subst e1; subst e2
      have e3 : n = n' := (gL_eq (by omega) (by omega)).mp ez
      subst e3
      exact ⟨hR, hR.1⟩
end SHOW
