section CHECKM
variable {l : Launch} {X : Nat × (Nat → Int32)} {d : Nat} {I I' : Nat → Nat → Int32} {J J' : Nat → Nat → Int64} {mc ms : Nat} {cnt fld fty : Nat → Nat} {t e n h m : Nat} {kd fa fb ly : Nat → Nat} {x y k : Int32}
/-- what check and refine of the reference may change -/
def FM (I I' : Nat → Nat → Int32) (J J' : Nat → Nat → Int64) : Prop :=
  (∀ r, r ∉ [26, 32, 33, 34, 35, 36, 41] → I' r = I r) ∧ (∀ i, i ∉ [8, 10, 25] → I' 26 i = I 26 i) ∧ ∀ r, r ∉ [26, 37] → J' r = J r
theorem FM.refl : FM I I J J := ⟨fun _ _ => rfl, fun _ _ => rfl, fun _ _ => rfl⟩
theorem FM.trans {I'' : Nat → Nat → Int32} {J'' : Nat → Nat → Int64} (h : FM I I' J J') (h' : FM I' I'' J' J'') : FM I I'' J J'' :=
  ⟨fun r hr => by rw [h'.1 r hr, h.1 r hr], fun r hr => by rw [h'.2.1 r hr, h.2.1 r hr], fun r hr => by rw [h'.2.2 r hr, h.2.2 r hr]⟩
theorem SF.fm {R Q : List Nat} {s : Nat} (h : SF R Q s I I' J J') (hR : ∀ r, r ∈ R → r ∈ [32, 33, 34, 41]) (hQ : ∀ r, r ∈ Q → r ∈ [8, 25]) : FM I I' J J' := by
  refine ⟨fun r hr => h.2.1 r fun z => ?_, fun i hi => h.2.2.1 i fun z => ?_, fun r hr => h.2.2.2 r (by simp only [List.mem_cons, List.not_mem_nil, or_false, not_or] at hr; exact hr.2)⟩
  · simp only [List.mem_cons, List.not_mem_nil, or_false, not_or] at hr z
    rcases z with z | z | z | z
    · exact hr.1 z
    · exact hr.2.2.2.2.1 z
    · exact hr.2.2.2.2.2.1 z
    · have := hR r z
      simp only [List.mem_cons, List.not_mem_nil, or_false] at this
      rcases this with w | w | w | w
      · exact hr.2.1 w
      · exact hr.2.2.1 w
      · exact hr.2.2.2.1 w
      · exact hr.2.2.2.2.2.2 w
  · simp only [List.mem_cons, List.not_mem_nil, or_false, not_or] at hi z
    rcases z with z | z
    · exact hi.2.1 z
    · have := hQ i z
      simp only [List.mem_cons, List.not_mem_nil, or_false] at this
      rcases this with w | w
      · exact hi.1 w
      · exact hi.2.2 w
theorem FM.w25 {v : Int32} : FM I (mm_set I 26 25 v) J J := ⟨fun r hr => mm_set_ne (by simp only [List.mem_cons, not_or] at hr; exact hr.1), fun i hi => by simp only [List.mem_cons, List.not_mem_nil, or_false, not_or] at hi; simp [mm_set, hi.2.2], fun _ _ => rfl⟩
theorem FM.w26 {v : Int64} {i : Nat} : FM I I J (mm_set J 26 i v) := ⟨fun _ _ => rfl, fun _ _ => rfl, fun r hr => mm_set_ne (by simp only [List.mem_cons, not_or] at hr; exact hr.1)⟩
theorem FM.pm (hF : FM I I' J J') (hP : PM n h kd fa fb ly I) : PM n h kd fa fb ly I' := hP.of (hF.2.1 14 (by decide)) (hF.2.1 19 (by decide)) (hF.1 38 (by decide)) (hF.1 39 (by decide)) (hF.1 40 (by decide)) (hF.1 42 (by decide))
theorem FM.tv (hF : FM I I' J J') (hT : TV I 27 28 29 cnt fld fty) : TV I' 27 28 29 cnt fld fty := hT.of (hF.1 27 (by decide)) (hF.1 28 (by decide)) (hF.1 29 (by decide))
theorem FM.mj (hF : FM I I' J J') (hJ : MJ cnt fld fty J) : MJ cnt fld fty J' := fun a b c d => by rw [hF.2.2 30 (by decide)]; exact hJ a b c d
theorem c132_loop (hw : PW n h kd fa fb ly) (hh : 0 < h) (ht : t < 6) (he : e < 5) {D : Nat} (hD : D = DN cnt fld fty (e + 1) t) (hD1 : D ≤ 1000) : ∀ (r j : Nat) (I : Nat → Nat → Int32) (J : Nat → Nat → Int64), j + r = D → TV I 27 28 29 cnt fld fty → PM n h kd fa fb ly I → MJ cnt fld fty J → I 26 25 = nI j → J 26 26 = lN j →
    ∃ I' J', mm_Run l X 132 (d + 5) 82 [.ref 26, .int (nI t), .int (nI e), .long (lN D), .null, .int (nI j)] [] (mm_Λ, I, J) mc ms (.inl (some (.int (ansC (fnd (evJ cnt fld fty kd fa fb e t (ly (h - 1))) r j))))) (mm_Λ, I', J') ∧ FM I I' J J' ∧ I' 26 25 = evlC (fnd (evJ cnt fld fty kd fa fb e t (ly (h - 1))) r j) D ∧ J' 26 26 = pasC (fnd (evJ cnt fld fty kd fa fb e t (ly (h - 1))) r j) D ∧
      (fnd (evJ cnt fld fty kd fa fb e t (ly (h - 1))) r j = none → I' 26 8 = I 26 8 ∧ I' 34 = I 34) ∧ (∀ i, fnd (evJ cnt fld fty kd fa fb e t (ly (h - 1))) r j = some i → RW (I' 26 8) (I' 34) (preT fld fty e (bld cnt fld fty (e + 1) t i) t))
  | 0, j, I, J, hj, hT, hP, hJ, h25, h26 => by
    have e1 : j = D := by omega
    subst e1
    refine ⟨I, J, b132_82 (fun _ => b132_139) (fun z => absurd ?_ z), FM.refl, h25, h26, fun _ => ⟨rfl, rfl⟩, fun i hi => by simp [fnd] at hi⟩
    rw [nI_64 (by omega)]
    exact Int32.not_lt.mp fun w => absurd ((lgclt _ _).mp w) (fun q => Int64.lt_irrefl q)
  | r + 1, j, I, J, hj, hT, hP, hJ, h25, h26 => by
    obtain ⟨I1, J1, r1, hH, s1⟩ := @c117 l X (d + 1) I J 0 0 cnt fld fty t j e he ht (by omega) hT hJ
    have F1 : FM I I1 J J1 := s1.fm (fun r hr => by simp only [List.mem_cons, List.not_mem_nil, or_false] at hr ⊢; rcases hr with w | w; exact Or.inl w; exact Or.inr (Or.inl w)) (fun r hr => by simp at hr)
    have k25 : I1 26 25 = nI j := by rw [s1.2.2.1 25 (by decide)]; exact h25
    have k26 : J1 26 26 = lN j := by rw [s1.2.2.2 26 (by decide)]; exact h26
    have F2 : FM I1 (mm_set I1 26 25 (nI (j + 1))) J1 J1 := FM.w25
    have F12 := F1.trans F2
    have hH2 : HT false cnt fld fty ((mm_set I1 26 25 (nI (j + 1))) 33) ((mm_set I1 26 25 (nI (j + 1))) 32) ((mm_set I1 26 25 (nI (j + 1))) 32) e (bld cnt fld fty (e + 1) t j) t 0 := by
      rw [mm_set_ne (by decide), mm_set_ne (by decide)]; exact hH
    obtain ⟨I3, J3, r3, s3⟩ := @c133 l X d (mm_set I1 26 25 (nI (j + 1))) J1 0 0 cnt fld fty t n h e kd fa fb ly _ (F12.tv hT) (F12.pm hP) hw hh (by omega) ht hH2
    have F3 : FM (mm_set I1 26 25 (nI (j + 1))) I3 J1 J3 := s3.fm (fun r hr => by simp only [List.mem_cons, List.not_mem_nil, or_false] at hr ⊢; exact Or.inr (Or.inr (Or.inr hr))) (fun r hr => by simp at hr)
    have F := F12.trans F3
    have g25 : I3 26 25 = nI (j + 1) := by rw [s3.2.2.1 25 (by decide)]; simp [mm_set]
    have g26 : J3 26 26 = lN j := by rw [s3.2.2.2 26 (by decide)]; exact k26
    have g8 : I3 26 8 = I 26 8 := by
      rw [s3.2.2.1 8 (by decide), show (mm_set I1 26 25 (nI (j + 1))) 26 8 = I1 26 8 by simp [mm_set], s1.2.2.1 8 (by decide)]
    have g34 : I3 34 = I 34 := by rw [s3.2.1 34 (by decide), mm_set_ne (by decide), s1.2.1 34 (by decide)]
    have hlt := ev_lt hT.tw hw (show e ≤ 4 by omega) ht hH (hw.2.2.2 (h - 1) (by omega))
    have hm := mny_lt
    have pre : ∀ {mc ms : Nat} {o : mm_O} {σ' : mm_S}, mm_Run l X 132 (d + 5) 113 [.ref 26, .int (nI t), .int (nI e), .long (lN D), .null, .int (nI j)] [.int (nI (evJ cnt fld fty kd fa fb e t (ly (h - 1)) j))] (mm_Λ, I3, J3) mc ms o σ' → mm_Run l X 132 (d + 5) 82 [.ref 26, .int (nI t), .int (nI e), .long (lN D), .null, .int (nI j)] [] (mm_Λ, I, J) mc ms o σ' := fun rr =>
      b132_82 (fun z => absurd ((lgclt _ _).mpr (by rw [nI_64 (by omega)]; exact (gL_lt (by omega) (by omega)).mpr (by omega))) (Int32.not_lt.mpr z)) (fun _ => b132_90 (I1 := I1) (J1 := J1) (by rw [nI_64 (by omega)]; exact r1) (b132_99 (I1 := I3) (J1 := J3) (by rw [k25, nI_1]; exact r3) rr))
    rw [fnd]
    by_cases e0 : evJ cnt fld fty kd fa fb e t (ly (h - 1)) j = 0
    · rw [if_pos e0]
      have hH3 : HT false cnt fld fty (I3 33) (I3 32) (I3 32) e (bld cnt fld fty (e + 1) t j) t 0 := by
        rw [s3.2.1 33 (by decide), s3.2.1 32 (by decide)]; exact hH2
      obtain ⟨I4, J4, r4, hR, s4⟩ := @c122 l X (d + 3) I3 J3 0 0 cnt fld fty t e _ (by omega) ht (F.tv hT) hH3
      have F4 : FM I3 I4 J3 J4 := s4.fm (fun r hr => by simp only [List.mem_cons, List.not_mem_nil, or_false] at hr ⊢; exact Or.inr (Or.inr (Or.inl hr))) (fun r hr => by simp only [List.mem_cons, List.not_mem_nil, or_false] at hr ⊢; exact Or.inl hr)
      refine ⟨I4, J4, pre (b132_113 (fun z => absurd (by rw [e0]; rfl) z) (fun _ => b132_116 r4 b132_120)), F.trans F4, ?_, ?_, fun z => by simp at z, fun i hi => ?_⟩
      · rw [s4.2.2.1 25 (by decide)]; exact g25
      · rw [s4.2.2.2 26 (by decide)]; exact g26
      · have := Option.some.inj hi
        subst this
        exact hR
    · rw [if_neg e0]
      have hq : ∀ v, mm_set J3 26 26 v 26 26 = v := fun v => by simp [mm_set]
      have F5 := F.trans (@FM.w26 I3 J3 (lN (j + 1)) 26)
      obtain ⟨I', J', rr, F6, c1, c2, c3, c4⟩ := c132_loop hw hh ht he hD hD1 r (j + 1) I3 (mm_set J3 26 26 (lN (j + 1))) (by omega) (F.tv hT) (F.pm hP) (F5.mj hJ) g25 (hq _)
      refine ⟨I', J', pre (b132_113 (fun _ => b132_123 ?_) (fun z => absurd (fun w => e0 ((nI_eq (b := 0) (Nat.lt_trans hlt (by omega)) (by omega)).mp w)) z)), F5.trans F6, c1, c2, fun z => ?_, c4⟩
      · rw [g26, nI_1, show (1 : Int64) = lN 1 from rfl, lN_add]
        exact rr
      · obtain ⟨u1, u2⟩ := c3 z
        exact ⟨by rw [u1, g8], by rw [u2, g34]⟩
theorem m_check (hT : TI cnt fld fty I J) (hP : PM n h kd fa fb ly I) (hw : PW n h kd fa fb ly) (hb : kbar cnt fld fty h x y k) : ∃ b I1 J1, mm_Call l X 132 (d + 5) [.ref 26, .int x, .int y] (mm_Λ, I, J) mc ms (.inl (some (.int b))) (mm_Λ, I1, J1) ∧ I1 26 0 = k ∧ (∀ r, r ∉ [26, 32, 33, 34, 35, 36, 41] → I1 r = I r) ∧ (∀ i, i ∉ [0, 8, 10, 25] → I1 26 i = I 26 i) ∧ (∀ r, r ∉ [26, 30, 37] → J1 r = J r) ∧
    (k ≠ 0 → I1 26 8 = I 26 8 ∧ I1 34 = I 34 ∧ I1 26 25 = I 26 25 ∧ J1 26 26 = J 26 26) ∧
    (k = 0 → ∀ t e D o, t < 6 → e < 5 → x = nI t → y = nI e → D = DN cnt fld fty (e + 1) t → o = fnd (evJ cnt fld fty kd fa fb e t (ly (h - 1))) D 0 → b = ansC o ∧ I1 26 25 = evlC o D ∧ J1 26 26 = pasC o D ∧ (o = none → I1 26 8 = I 26 8 ∧ I1 34 = I 34) ∧ ∀ i, o = some i → RW (I1 26 8) (I1 34) (preT fld fty e (bld cnt fld fty (e + 1) t i) t)) := by
  have h20 := hw.1
  have h2n := hw.2.1
  have fr : ∀ k : Int32, (∀ p, p ∉ [26, 32, 33, 34, 35, 36, 41] → mm_set I 26 0 k p = I p) ∧ (∀ i, i ∉ [0, 8, 10, 25] → mm_set I 26 0 k 26 i = I 26 i) ∧ (mm_set I 26 0 k 26 8 = I 26 8 ∧ mm_set I 26 0 k 34 = I 34 ∧ mm_set I 26 0 k 26 25 = I 26 25) := fun k => ⟨fun p hp => mm_set_ne (by simp only [List.mem_cons, not_or] at hp; exact hp.1), fun i hi => by simp only [List.mem_cons, not_or] at hi; simp [mm_set, hi.1], by simp [mm_set], mm_set_ne (by decide), by simp [mm_set]⟩
  have st2 : ∀ k : Int32, mm_set (mm_set I 26 0 0) 26 0 k = mm_set I 26 0 k := fun k => by
    funext q j
    simp only [mm_set]
    by_cases h1 : q = 26 <;> by_cases h2 : j = 0 <;> simp [h1, h2]
  rcases hb with ⟨h1, rfl⟩ | ⟨h1, h2, rfl⟩ | ⟨t, e, ht, he, rfl, rfl, h3, rfl⟩ | ⟨t, e, ht, he, rfl, rfl, hh, hD1, rfl⟩
  · exact ⟨0, _, J, b132_0 (c104 (Or.inl ⟨h1, rfl⟩)) (b132_6 (fun q => absurd q (by decide)) (fun _ => b132_16)), mm_at, (fr 1).1, (fr 1).2.1, fun _ _ => rfl, fun _ => ⟨(fr 1).2.2.1, (fr 1).2.2.2.1, (fr 1).2.2.2.2, rfl⟩, fun q => absurd q (by decide)⟩
  · exact ⟨0, _, J, b132_0 (c104 (Or.inr (Or.inl ⟨h1, h2, rfl⟩))) (b132_6 (fun q => absurd q (by decide)) (fun _ => b132_16)), mm_at, (fr 2).1, (fr 2).2.1, fun _ _ => rfl, fun _ => ⟨(fr 2).2.2.1, (fr 2).2.2.2.1, (fr 2).2.2.2.2, rfl⟩, fun q => absurd q (by decide)⟩
  · have hm := mny_lt
    have hDl := DN_le cnt fld fty (e + 1) t
    have hT' : TV (mm_set I 26 0 0) 27 28 29 cnt fld fty := hT.2.1.of (mm_set_ne (by decide)) (mm_set_ne (by decide)) (mm_set_ne (by decide))
    obtain ⟨J2, r, hp⟩ := @c105 l X (d + 2) (mm_set I 26 0 0) J 0 0 cnt fld fty hT'
    have bad : mm_Run l X 132 (d + 5) 52 [.ref 26, .int (nI t), .int (nI e), .long (lN (DN cnt fld fty (e + 1) t)), .null, .null] [.ref 26] (mm_Λ, mm_set I 26 0 0, J2) mc ms (.inl (some (.int 0))) (mm_Λ, mm_set I 26 0 3, J2) := by
      refine b132_52 (b132_57 (fun q => absurd q (by decide)) (fun _ => ?_))
      rw [st2]
      exact b132_67
    have q22 := @b132_22 l X (d + 4) (mm_set I 26 0 0) J2 (nI t) (nI e) mc ms (.inl (some (.int 0))) (mm_Λ, mm_set I 26 0 3, J2)
    rw [jx6, nI_1, ix_cl (by omega), show 6 * t + e + 1 = 6 * t + (e + 1) by omega, hp.2 (e + 1) t (by omega) ht (Or.inl (by omega)), show (mm_set I 26 0 0) 26 19 = nI h by simp [mm_set]; exact hP.2.1] at q22
    refine ⟨0, _, J2, b132_0 (c104 (Or.inr (Or.inr ⟨isT_of ht, isD_of he, rfl⟩))) (b132_6 (fun _ => b132_18 r (q22 (ix_in (by omega) (by omega)) (fun _ => bad) (fun z => b132_44 (fun z1 => ?_) (fun _ => bad)))) (fun q => absurd (by decide) q)), mm_at, (fr 3).1, (fr 3).2.1, fun p hp' => hp.1 p (by simp only [List.mem_cons, not_or] at hp'; exact hp'.2.1), fun _ => ⟨(fr 3).2.2.1, (fr 3).2.2.2.1, (fr 3).2.2.2.2, by rw [hp.1 26 (by decide)]⟩, fun q => absurd q (by decide)⟩
    rcases h3 with w | w
    · exact absurd (by rw [w]; rfl) z
    · exact absurd ((gL_le (b := 1000) (by omega) (by omega)).mp ((lgcle _ _).mp z1)) (by omega)
  · have hm := mny_lt
    have hT' : TV (mm_set I 26 0 0) 27 28 29 cnt fld fty := hT.2.1.of (mm_set_ne (by decide)) (mm_set_ne (by decide)) (mm_set_ne (by decide))
    obtain ⟨J2, r, hp⟩ := @c105 l X (d + 2) (mm_set I 26 0 0) J 0 0 cnt fld fty hT'
    have hMJ : MJ cnt fld fty J2 := fun e' u a b => hp.2 e' u a b (Or.inl a)
    have F0 : FM (mm_set I 26 0 0) (mm_set (mm_set I 26 0 0) 26 25 0) J2 (mm_set J2 26 26 0) := FM.w25.trans FM.w26
    have hP' : PM n h kd fa fb ly (mm_set I 26 0 0) := hP.thrown
    obtain ⟨I', J', rr, F, c1, c2, c3, c4⟩ := @c132_loop l X d mc ms cnt fld fty t e n h kd fa fb ly hw hh ht he _ rfl hD1 (DN cnt fld fty (e + 1) t) 0 (mm_set (mm_set I 26 0 0) 26 25 0) (mm_set J2 26 26 0) (by omega) (F0.tv hT') (F0.pm hP') (F0.mj hMJ) (by simp [mm_set]; exact nI_0.symm) (by simp [mm_set]; rfl)
    rw [nI_0] at rr
    have FF := F0.trans F
    have q22 := @b132_22 l X (d + 4) (mm_set I 26 0 0) J2 (nI t) (nI e) mc ms (.inl (some (.int (ansC (fnd (evJ cnt fld fty kd fa fb e t (ly (h - 1))) (DN cnt fld fty (e + 1) t) 0))))) (mm_Λ, I', J')
    rw [jx6, nI_1, ix_cl (by omega), show 6 * t + e + 1 = 6 * t + (e + 1) by omega, hp.2 (e + 1) t (by omega) ht (Or.inl (by omega)), show (mm_set I 26 0 0) 26 19 = nI h by simp [mm_set]; exact hP.2.1] at q22
    refine ⟨ansC (fnd (evJ cnt fld fty kd fa fb e t (ly (h - 1))) (DN cnt fld fty (e + 1) t) 0), I', J', b132_0 (c104 (Or.inr (Or.inr ⟨isT_of ht, isD_of he, rfl⟩))) (b132_6 (fun _ => b132_18 r (q22 (ix_in (by omega) (by omega)) (fun z => absurd ((nI_eq (b := 0) (by omega) (by omega)).mp z) (by omega)) (fun _ => b132_44 (fun _ => b132_56 (b132_57 (fun _ => b132_69 ?_) (fun q => absurd (by decide) q))) (fun z => absurd ((lgcle _ _).mpr ((gL_le (b := 1000) (by omega) (by omega)).mpr hD1)) z)))) (fun q => absurd (by decide) q)), ?_, fun p hp' => ?_, fun i hi => ?_, fun p hp' => ?_, fun q => absurd rfl q, fun _ t' e' D o ht' he' ex ey eD eo => ?_⟩
    · rw [st2]
      exact rr
    · rw [FF.2.1 0 (by decide)]; exact mm_at
    · rw [FF.1 p hp']; exact (fr 0).1 p hp'
    · simp only [List.mem_cons, List.not_mem_nil, or_false, not_or] at hi
      rw [FF.2.1 i (by simp only [List.mem_cons, List.not_mem_nil, or_false, not_or]; exact hi.2)]
      simp [mm_set, hi.1]
    · simp only [List.mem_cons, List.not_mem_nil, or_false, not_or] at hp'
      rw [FF.2.2 p (by simp only [List.mem_cons, List.not_mem_nil, or_false, not_or]; exact ⟨hp'.1, hp'.2.2⟩), hp.1 p hp'.2.1]
    · have e1 : t = t' := (nI_eq (by omega) (by omega)).mp ex
      have e2 : e = e' := (nI_eq (by omega) (by omega)).mp ey
      subst e1; subst e2; subst eD; subst eo
      refine ⟨rfl, c1, c2, fun z => ?_, c4⟩
      obtain ⟨u1, u2⟩ := c3 z
      exact ⟨by rw [u1]; simp [mm_set], by rw [u2, mm_set_ne (by decide), mm_set_ne (by decide)]⟩
end CHECKM
