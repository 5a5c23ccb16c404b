/-! ===== check ===== -/
theorem nI_64 {j : Nat} (h : j < 2 ^ 31) : (nI j).toInt64 = lN j := by
  rw [← Int64.toInt_inj, gL63 (by omega), Int32.toInt_toInt64, nI_toInt h]
theorem lN_32 {j : Nat} (h : j < 2 ^ 31) : (lN j).toInt32 = nI j := by
  rw [← nI_64 h, Int32.toInt32_toInt64]
/-- the first from j on of which it is false -/
def fnd (E : Nat → Nat) : Nat → Nat → Option Nat
  | 0, _ => none
  | r + 1, j => if E j = 0 then some j else fnd E r (j + 1)
def ansC (o : Option Nat) : Int32 := match o with
  | none => -1
  | some j => nI j
def evlC (o : Option Nat) (D : Nat) : Int32 := match o with
  | none => nI D
  | some j => nI (j + 1)
def pasC (o : Option Nat) (D : Nat) : Int64 := match o with
  | none => lN D
  | some j => lN j
theorem fnd_lt {E : Nat → Nat} : ∀ (r j : Nat) {i : Nat}, fnd E r j = some i → j ≤ i ∧ i < j + r
  | 0, j, i, h => by simp [fnd] at h
  | r + 1, j, i, h => by
    rw [fnd] at h
    by_cases e : E j = 0
    · rw [if_pos e] at h
      have := Option.some.inj h
      omega
    · rw [if_neg e] at h
      have := fnd_lt r (j + 1) h
      omega
/-- the topmost property of the j-th value -/
def evJ (cnt fld fty kd fa fb : Nat → Nat) (e t top : Nat) : Nat → Nat := fun j => evE (tvF fld fty (bld cnt fld fty (e + 1) t j) t) (svF fld fty e (bld cnt fld fty (e + 1) t j) t) kd fa fb top
section CHECK
variable {l : Launch} {X : Nat × (Nat → Int32)} {d : Nat} {I I' : Nat → Nat → Int32} {J J' : Nat → Nat → Int64} {mc ms : Nat} {cnt fld fty : Nat → Nat} {t e n h m : Nat} {kd fa fb ly : Nat → Nat} {x y k : Int32}
theorem PC.of (hP : PC n h kd fa fb ly I) (h1 : ∀ p, p ∈ [19, 20, 21, 22, 23] → I' p = I p) : PC n h kd fa fb ly I' := by
  unfold PC
  rw [h1 19 (by decide), h1 20 (by decide), h1 21 (by decide), h1 22 (by decide), h1 23 (by decide)]
  exact hP
theorem c80_loop (hw : PW n h kd fa fb ly) (hh : 0 < h) (ht : t < 6) (he : e < 5) {D : Nat} (hD : D = DN cnt fld fty (e + 1) t) (hD1 : D ≤ 1000) : ∀ (r j : Nat) (I : Nat → Nat → Int32), j + r = D → TI cnt fld fty I J → PC n h kd fa fb ly I →
    ∃ I', mm_Run l X 80 (d + 28) 3 [.ref 0, .int (nI t), .int (nI e), .int (nI D), .int (nI j)] [] (mm_Λ, I, J) mc ms (.inl (some (.int (ansC (fnd (evJ cnt fld fty kd fa fb e t (ly (h - 1))) r j))))) (mm_Λ, I', J) ∧ (∀ r, r ≠ 14 → r ≠ 15 → r ≠ 16 → I' r = I r) ∧ (∀ i, fnd (evJ cnt fld fty kd fa fb e t (ly (h - 1))) r j = some i → HT true cnt fld fty (I' 14) (I' 15) (I' 16) e (bld cnt fld fty (e + 1) t i) t 0)
  | 0, j, I, hj, hT, hP => ⟨I, b80_3 (fun _ => b80_46) (fun z => absurd (nI_le (by omega) (by omega)) z), fun _ _ _ _ => rfl, fun i hi => by simp [fnd] at hi⟩
  | r + 1, j, I, hj, hT, hP => by
    obtain ⟨I1, r1, hH, f1⟩ := @c41 l X (d + 24 - e) I J 0 0 cnt fld fty t e j he ht (by omega) hT
    rw [show d + 24 - e + e + 3 = d + 27 by omega] at r1
    have hP1 : PC n h kd fa fb ly I1 := hP.of fun p hp => f1 p (by rintro rfl; simp at hp) (by rintro rfl; simp at hp) (by rintro rfl; simp at hp)
    have hT1 : TI cnt fld fty I1 J := hT.same (fun q hq => f1 q (by rintro rfl; simp at hq) (by rintro rfl; simp at hq) (by rintro rfl; simp at hq)) (fun _ _ => rfl)
    have r2 := @c81 l X d I1 J 0 0 cnt fld fty t n h e kd fa fb ly _ hT.1.tw hP1 hw hh (by omega) ht hH
    have hlt := ev_lt hT.1.tw hw (show e ≤ 4 by omega) ht hH (hw.2.2.2 (h - 1) (by omega))
    rw [fnd]
    by_cases e0 : evJ cnt fld fty kd fa fb e t (ly (h - 1)) j = 0
    · rw [if_pos e0]
      refine ⟨I1, b80_3 (fun z => absurd z (nI_ge (by omega) (by omega))) (fun _ => b80_9 (I1 := I1) (J1 := J) (by rw [nI_64 (by omega)]; exact r1) (b80_21 r2 (b80_32 (fun z => absurd ((cdA_0 hlt).mpr e0) z) (fun _ => b80_37)))), f1, fun i hi => ?_⟩
      have := Option.some.inj hi
      subst this
      exact hH
    · rw [if_neg e0]
      obtain ⟨I', rr, f2, hh2⟩ := c80_loop hw hh ht he hD hD1 r (j + 1) I1 (by omega) hT1 hP1
      refine ⟨I', b80_3 (fun z => absurd z (nI_ge (by omega) (by omega))) (fun _ => b80_9 (I1 := I1) (J1 := J) (by rw [nI_64 (by omega)]; exact r1) (b80_21 r2 (b80_32 (fun _ => b80_40 ?_) (fun z => absurd (fun w => e0 ((cdA_0 hlt).mp w)) z)))), fun q a b c => by rw [f2 q a b c, f1 q a b c], hh2⟩
      rw [nI_1]
      exact rr
def kbar (cnt fld fty : Nat → Nat) (h : Nat) (x y k : Int32) : Prop :=
  (¬ isT x ∧ k = 1) ∨ (isT x ∧ ¬ isD y ∧ k = 2) ∨ (∃ t e, t < 6 ∧ e < 5 ∧ x = nI t ∧ y = nI e ∧ (h = 0 ∨ 1000 < DN cnt fld fty (e + 1) t) ∧ k = 3) ∨ (∃ t e, t < 6 ∧ e < 5 ∧ x = nI t ∧ y = nI e ∧ 0 < h ∧ DN cnt fld fty (e + 1) t ≤ 1000 ∧ k = 0)
theorem kbar_ex (cnt fld fty : Nat → Nat) (h : Nat) (x y : Int32) : ∃ k, kbar cnt fld fty h x y k := by
  by_cases h1 : isT x
  · by_cases h2 : isD y
    · obtain ⟨t, ht, e1⟩ := isT_nI h1
      obtain ⟨e, he, e2⟩ := isD_nI h2
      by_cases h3 : h = 0 ∨ 1000 < DN cnt fld fty (e + 1) t
      · exact ⟨3, Or.inr (Or.inr (Or.inl ⟨t, e, ht, he, e1, e2, h3, rfl⟩))⟩
      · exact ⟨0, Or.inr (Or.inr (Or.inr ⟨t, e, ht, he, e1, e2, by omega, by omega, rfl⟩))⟩
    · exact ⟨2, Or.inr (Or.inl ⟨h1, h2, rfl⟩)⟩
  · exact ⟨1, Or.inl ⟨h1, rfl⟩⟩
theorem c79_ok (hP : I 19 5 = nI h) (hh : 0 < h) (h20 : h ≤ 20) : mm_Call l X 79 (d + 1) [.ref 0] (mm_Λ, I, J) mc ms (.inl none) (mm_Λ, I, J) := by
  have r := @c74 l X d I J 0 0
  rw [hP] at r
  exact b79_0 r (b79_7 (fun _ => b79_20) (fun z => absurd (fun w => absurd ((nI_eq (b := 0) (by omega) (by omega)).mp w) (by omega)) z))
theorem c79_no (hP : I 19 5 = nI h) (hh : h = 0) : mm_Call l X 79 (d + 1) [.ref 0] (mm_Λ, I, J) 1 6 (.inr (mm_ex 2)) (mm_Λ, I, J) := by
  have r := @c74 l X d I J 0 0
  rw [hP, hh] at r
  exact b79_0 r (b79_7 (fun z => absurd rfl z) (fun _ => b79_10))
theorem h_check (hT : TI cnt fld fty I J) (hP : PC n h kd fa fb ly I) (hw : PW n h kd fa fb ly) (hb : kbar cnt fld fty h x y k) : ∃ I1 J1, mm_Call l X 77 (d + 30) [.ref 0, .int x, .int y, .ref 45] (mm_Λ, I, J) 1 6 (.inl (some (.int k))) (mm_Λ, I1, J1) ∧ (k ≠ 0 → I1 = I ∧ J1 = J) ∧
    (k = 0 → ∃ t e D o, t < 6 ∧ e < 5 ∧ x = nI t ∧ y = nI e ∧ D = DN cnt fld fty (e + 1) t ∧ D ≤ 1000 ∧ 0 < h ∧ o = fnd (evJ cnt fld fty kd fa fb e t (ly (h - 1))) D 0 ∧ I1 0 8 = evlC o D ∧ J1 0 9 = pasC o D ∧ J1 45 0 = (ansC o).toInt64 ∧
      (o = none → I1 11 = I 11 ∧ I1 12 = I 12) ∧ (∀ i, o = some i → RW (I1 11 1) (I1 12) (preT fld fty e (bld cnt fld fty (e + 1) t i) t) ∧ (preT fld fty e (bld cnt fld fty (e + 1) t i) t).length ≤ 121) ∧ (∀ r, r ∉ [0, 11, 12, 14, 15, 16] → I1 r = I r) ∧ (∀ r, r ∉ [0, 45] → J1 r = J r)) := by
  have h20 := hw.1
  have h2n := hw.2.1
  rcases hb with ⟨h1, rfl⟩ | ⟨h1, h2, rfl⟩ | ⟨t, e, ht, he, rfl, rfl, h3, rfl⟩ | ⟨t, e, ht, he, rfl, rfl, hh, hD1, rfl⟩
  · exact ⟨I, J, b77_0c0 (mc := 0) (ms := 0) (b78_0t (c17_no h1)) b77_13, fun _ => ⟨rfl, rfl⟩, fun q => absurd q (by decide)⟩
  · exact ⟨I, J, b77_0c1 (mc := 0) (ms := 0) (b78_0 (c17_ok h1) (b78_4t (c37_no h2))) b77_17, fun _ => ⟨rfl, rfl⟩, fun q => absurd q (by decide)⟩
  · refine ⟨I, J, b77_0c2 (mc := 0) (ms := 0) (b78_0 (c17_ok (isT_of ht)) (b78_4 (c37_ok (isD_of he)) ?_)) b77_21, fun _ => ⟨rfl, rfl⟩, fun q => absurd q (by decide)⟩
    by_cases hh : h = 0
    · exact b78_8t (c79_no hP.2.1 hh)
    · have hm := mny_lt
      have hDl := DN_le cnt fld fty (e + 1) t
      have r := @c27 l X (d + 28) I J 0 0 t e ht he
      rw [(hT.2.2.1 e t he ht).1, DT_N] at r
      refine b78_8 (c79_ok hP.2.1 (by omega) (by omega)) (b78_12 r (b78_21 (fun z => absurd ((lgcle _ _).mp z) ?_) (fun _ => b78_30)))
      exact fun z => absurd ((gL_le (b := 1000) (by omega) (by omega)).mp z) (by omega)
  · have hm := mny_lt
    have r := @c27 l X (d + 28) I J 0 0 t e ht he
    rw [(hT.2.2.1 e t he ht).1, DT_N] at r
    obtain ⟨I1, r1, f1, hH⟩ := @c80_loop l X d J 0 0 cnt fld fty t e n h kd fa fb ly hw hh ht he _ rfl hD1 (DN cnt fld fty (e + 1) t) 0 I (by omega) hT hP
    rw [nI_0] at r1
    have hf := @fnd_lt (evJ cnt fld fty kd fa fb e t (ly (h - 1))) (DN cnt fld fty (e + 1) t) 0
    have pre : ∀ {mc ms : Nat} {o : mm_O} {σ' : mm_S}, mm_Run l X 78 (d + 29) 48 [.ref 0, .int (nI t), .int (nI e), .long (lN (DN cnt fld fty (e + 1) t)), .null, .null] [.int (ansC (fnd (evJ cnt fld fty kd fa fb e t (ly (h - 1))) (DN cnt fld fty (e + 1) t) 0))] (mm_Λ, I1, J) mc ms o σ' → mm_Call l X 78 (d + 29) [.ref 0, .int (nI t), .int (nI e)] (mm_Λ, I, J) mc ms o σ' := fun rr =>
      b78_0 (c17_ok (isT_of ht)) (b78_4 (c37_ok (isD_of he)) (b78_8 (c79_ok hP.2.1 hh (by omega)) (b78_12 r (b78_21 (fun _ => b78_40 (I1 := I1) (J1 := J) (by rw [lN_32 (by omega)]; exact b80_0 r1) rr) (fun z => absurd ((lgcle _ _).mpr ((gL_le (b := 1000) (by omega) (by omega)).mpr hD1)) z)))))
    generalize hD : DN cnt fld fty (e + 1) t = D at *
    generalize ho : fnd (evJ cnt fld fty kd fa fb e t (ly (h - 1))) D 0 = o at *
    match o with
    | none =>
      refine ⟨mm_set I1 0 8 (nI D), mm_set (mm_set J 0 9 (lN D)) 45 0 ((-1 : Int32)).toInt64, b77_0 (pre (b78_48 (fun z => absurd rfl z) (fun _ => b78_57 (b78_66 (fun z => absurd rfl z) (fun _ => b78_76 (b78_83 (fun _ => b78_103) (fun z => absurd rfl z))))))) (b77_8 (by unfold vp_in; decide) ?_), fun q => absurd rfl q, fun _ => ⟨t, e, D, none, ht, he, rfl, rfl, hD.symm, hD1, hh, ho.symm, by simp [mm_set, evlC], by simp [mm_set, pasC], by simp [mm_set, ansC], fun _ => ⟨?_, ?_⟩, fun i hi => by simp at hi, fun q hq => ?_, fun q hq => ?_⟩⟩
      · rw [lN_32 (by omega)]
        exact b77_25
      · rw [mm_set_ne (by decide), f1 11 (by decide) (by decide) (by decide)]
      · rw [mm_set_ne (by decide), f1 12 (by decide) (by decide) (by decide)]
      · simp only [List.mem_cons, List.not_mem_nil, or_false, not_or] at hq
        rw [mm_set_ne hq.1, f1 q hq.2.2.2.1 hq.2.2.2.2.1 hq.2.2.2.2.2]
      · simp only [List.mem_cons, List.not_mem_nil, or_false, not_or] at hq
        rw [mm_set_ne hq.2, mm_set_ne hq.1]
    | some i =>
      have hi := hf rfl
      have hHi := hH i rfl
      have hH0 : HT true cnt fld fty ((mm_set I1 0 8 (nI (i + 1))) 14) ((mm_set I1 0 8 (nI (i + 1))) 15) ((mm_set I1 0 8 (nI (i + 1))) 16) e (bld cnt fld fty (e + 1) t i) t 0 := by
        rw [mm_set_ne (by decide), mm_set_ne (by decide), mm_set_ne (by decide)]; exact hHi
      obtain ⟨I2, r2, hR, f2⟩ := @c47 l X (d + 25 - e) (mm_set I1 0 8 (nI (i + 1))) (mm_set J 0 9 (lN i)) 0 0 cnt fld fty t e _ hT.1.tw (by omega) ht hH0
      rw [show d + 25 - e + e + 3 = d + 28 by omega] at r2
      have hlen : (preT fld fty e (bld cnt fld fty (e + 1) t i) t).length ≤ 121 := by
        have hb : bnd e ≤ 121 := by
          match e, he with
          | 0, _ => decide
          | 1, _ => decide
          | 2, _ => decide
          | 3, _ => decide
          | 4, _ => decide
        exact Nat.le_trans (preT_len hT.1.tw e _ t 0 ht hHi) hb
      have hne : ¬ nI i = -1 := nI_ne1 (by omega)
      refine ⟨I2, mm_set (mm_set J 0 9 (lN i)) 45 0 (nI i).toInt64, b77_0 (pre (b78_48 (fun _ => b78_62 (b78_66 (fun _ => b78_80 (b78_83 (fun z => absurd z hne) (fun _ => b78_92 (I1 := I2) (J1 := mm_set J 0 9 (lN i)) ?_ b78_103))) (fun z => absurd hne z))) (fun z => absurd hne z))) (b77_8 (by unfold vp_in; decide) b77_25), fun q => absurd rfl q, fun _ => ⟨t, e, D, some i, ht, he, rfl, rfl, hD.symm, hD1, hh, ho.symm, ?_, by simp [mm_set, pasC], by simp [mm_set, ansC], fun z => by simp at z, fun i' hi' => ?_, fun q hq => ?_, fun q hq => ?_⟩⟩
      · rw [show ansC (some i) = nI i from rfl, nI_64 (by omega), nI_1]
        exact r2
      · rw [f2 0 (by decide) (by decide)]; simp [mm_set, evlC]
      · have := Option.some.inj hi'
        subst this
        exact ⟨hR, hlen⟩
      · simp only [List.mem_cons, List.not_mem_nil, or_false, not_or] at hq
        rw [f2 q hq.2.1 hq.2.2.1, mm_set_ne hq.1, f1 q hq.2.2.2.1 hq.2.2.2.2.1 hq.2.2.2.2.2]
      · simp only [List.mem_cons, List.not_mem_nil, or_false, not_or] at hq
        rw [mm_set_ne hq.2, mm_set_ne hq.1]
end CHECK
