theorem rfS_lt {E W : List (Nat × Nat) → Nat} {ad : List (Nat × Nat) → Option (List (Nat × Nat))} : ∀ (f : Nat) (L : List (Nat × Nat)) (P : Nat), (rfS E W ad f L P).1 < 3
  | 0, L, P => by rw [rfS]; show 2 < 3; decide
  | f + 1, L, P => by
    rw [rfS]
    split
    · show 1 < 3; decide
    · split
      · show 0 < 3; decide
      · exact rfS_lt f _ _
/-- what refine comes to -/
def rfR (cnt fld fty kd fa fb : Nat → Nat) (most t top : Nat) : Nat × Nat × Nat × List (Nat × Nat) := rfS (stE fld fty kd fa fb most t top) (stW cnt fld fty most t) (adS cnt fld fty most t) 2000 [] 0
section REFH
variable {l : Launch} {X : Nat × (Nat → Int32)} {d : Nat} {I I' : Nat → Nat → Int32} {J J' : Nat → Nat → Int64} {mc ms : Nat} {cnt fld fty : Nat → Nat} {t e n h most : Nat} {kd fa fb ly : Nat → Nat} {x y k : Int32}
/-- run -/
theorem c91 (hT : TI cnt fld fty I J) (hP : PC n h kd fa fb ly I) (hw : PW n h kd fa fb ly) (hh : 0 < h) (ht : t < 6) (hm : most ≤ 4) :
    ∃ I' J', mm_Call l X 91 (d + 28) [.ref 24, .int (nI t), .int (nI most)] (mm_Λ, I, J) mc ms (.inl (some (.retAddr ((rfR cnt fld fty kd fa fb most t (ly (h - 1))).1 + 1)))) (mm_Λ, I', J') ∧ FC I I' J J' ∧
      I' 24 4 = nI (2000 - (rfR cnt fld fty kd fa fb most t (ly (h - 1))).2.1) ∧ J' 24 5 = lN (rfR cnt fld fty kd fa fb most t (ly (h - 1))).2.2.1 ∧
      ((rfR cnt fld fty kd fa fb most t (ly (h - 1))).1 = 1 → HT true cnt fld fty (I' 14) (I' 15) (I' 16) most (trs (rfR cnt fld fty kd fa fb most t (ly (h - 1))).2.2.2) t 0) := by
  have r46 : mm_Call l X 46 (d + 26) [.ref 13, .int (nI 0)] (mm_Λ, mm_set I 14 0 (nI t), J) 0 0 (.inl none) (mm_Λ, mm_set (mm_set (mm_set I 14 0 (nI t)) 15 0 (-2)) 16 0 0, J) := c46 (by omega)
  rw [nI_0] at r46
  have F0 : FC I (mm_set (mm_set (mm_set (mm_set (mm_set I 14 0 (nI t)) 15 0 (-2)) 16 0 0) 24 3 0) 24 4 0) J (mm_set J 24 5 0) := by
    refine FC.trans ⟨fun r hr => ?_, fun _ _ => rfl⟩ ((FC.i24.trans FC.i24).trans FC.j24)
    simp only [List.mem_cons, List.not_mem_nil, or_false, not_or] at hr
    rw [mm_set_ne hr.2.2.1, mm_set_ne hr.2.1, mm_set_ne hr.1]
  obtain ⟨I', J', rr, F1, c1, c2, c3⟩ := @c91_loop l X d mc ms cnt fld fty t n h most kd fa fb ly hw hh ht hm 2000 [] 0 (mm_set (mm_set (mm_set (mm_set (mm_set I 14 0 (nI t)) 15 0 (-2)) 16 0 0) 24 3 0) 24 4 0) (mm_set J 24 5 0) (Nat.le_refl _) (Nat.zero_le _) trivial (fun y hy => by simp at hy) (by simp) (F0.ti hT) (F0.pc hP)
    (HT.isH (by simp [mm_set]) (by simp [mm_set]) (fun _ => by simp [mm_set])) (by simp [mm_set]; rfl) trivial (by simp [mm_set]; rfl) (by simp [mm_set]; rfl)
  exact ⟨I', J', b91_0 (b92_0 r46 b92_12) (b91_8 rr), F0.trans F1, c1, c2, c3⟩
/-- the refusals of refine -/
def rbar (h : Nat) (x y k : Int32) : Prop := (¬ isT x ∧ k = 1) ∨ (isT x ∧ ¬ isD y ∧ k = 2) ∨ (isT x ∧ isD y ∧ h = 0 ∧ k = 3)
theorem h_refine_no (hP : PC n h kd fa fb ly I) (hb : rbar h x y k) : mm_Call l X 89 (d + 30) [.ref 0, .int x, .int y, .ref 45] (mm_Λ, I, J) 1 6 (.inl (some (.int k))) (mm_Λ, I, J) := by
  rcases hb with ⟨h1, rfl⟩ | ⟨h1, h2, rfl⟩ | ⟨h1, h2, h3, rfl⟩
  · exact b89_0c0 (mc := 0) (ms := 0) (b90_0t (c17_no h1)) b89_20
  · exact b89_0c1 (mc := 0) (ms := 0) (b90_0 (c17_ok h1) (b90_4t (c37_no h2))) b89_24
  · exact b89_0c2 (mc := 0) (ms := 0) (b90_0 (c17_ok h1) (b90_4 (c37_ok h2) (b90_8t (c79_no hP.2.1 h3)))) b89_28
theorem h_refine (hT : TI cnt fld fty I J) (hP : PC n h kd fa fb ly I) (hw : PW n h kd fa fb ly) (hh : 0 < h) (ht : t < 6) (he : e < 5) {R : Nat × Nat × Nat × List (Nat × Nat)} (hR : R = rfR cnt fld fty kd fa fb e t (ly (h - 1))) :
    ∃ I1 J1, mm_Call l X 89 (d + 30) [.ref 0, .int (nI t), .int (nI e), .ref 45] (mm_Λ, I, J) 1 6 (.inl (some (.int (if R.1 = 2 then 3 else 0)))) (mm_Λ, I1, J1) ∧ I1 0 8 = nI (2000 - R.2.1) ∧ J1 0 9 = lN R.2.2.1 ∧ (R.1 = 0 → J1 45 0 = 1) ∧ (R.1 = 1 → J1 45 0 = 0) ∧ (R.1 ≠ 1 → I1 11 = I 11 ∧ I1 12 = I 12) ∧ (R.1 = 1 → RW (I1 11 1) (I1 12) (preT fld fty e (trs R.2.2.2) t) ∧ (preT fld fty e (trs R.2.2.2) t).length ≤ 121) ∧ (∀ r, r ∉ [0, 11, 12, 14, 15, 16, 24, 25] → I1 r = I r) ∧ (∀ r, r ∉ [0, 24, 45] → J1 r = J r) := by
  have h20 := hw.1
  have h2n := hw.2.1
  have hR3 : R.1 < 3 := by rw [hR]; exact rfS_lt _ _ _
  obtain ⟨I1, J1, r91, F, c1, c2, c3⟩ := @c91 l X d I J 0 0 cnt fld fty t n h e kd fa fb ly hT hP hw hh ht (by omega)
  rw [← hR] at r91 c1 c2 c3
  have r97 := @c97 l X (d + 28) I1 J1 0 0
  rw [c1] at r97
  have r98 := @c98 l X (d + 28) (mm_set I1 0 8 (nI (2000 - R.2.1))) J1 0 0
  rw [c2] at r98
  have pre : ∀ {mc ms : Nat} {o : mm_O} {σ' : mm_S}, mm_Run l X 90 (d + 29) 41 [.ref 0, .int (nI t), .int (nI e), .retAddr (R.1 + 1)] [.long (lN R.2.2.1), .ref 0] (mm_Λ, mm_set I1 0 8 (nI (2000 - R.2.1)), J1) mc ms o σ' → mm_Call l X 90 (d + 29) [.ref 0, .int (nI t), .int (nI e)] (mm_Λ, I, J) mc ms o σ' := fun rr =>
    b90_0 (c17_ok (isT_of ht)) (b90_4 (c37_ok (isD_of he)) (b90_8 (c79_ok hP.2.1 hh (by omega)) (b90_12 r91 (b90_21 r97 (b90_30 r98 rr)))))
  have fI : ∀ r, r ∉ [0, 14, 15, 16, 24, 25] → (mm_set I1 0 8 (nI (2000 - R.2.1))) r = I r := fun r hr => by
    simp only [List.mem_cons, List.not_mem_nil, or_false, not_or] at hr
    rw [mm_set_ne hr.1, F.1 r (by simp only [List.mem_cons, List.not_mem_nil, or_false, not_or]; exact hr.2)]
  have fI' : ∀ r, r ∉ [0, 11, 12, 14, 15, 16, 24, 25] → (mm_set I1 0 8 (nI (2000 - R.2.1))) r = I r := fun r hr => fI r (by simp only [List.mem_cons, List.not_mem_nil, or_false, not_or] at hr ⊢; exact ⟨hr.1, hr.2.2.2⟩)
  have fJ : ∀ r, r ∉ [0, 24, 45] → (mm_set J1 0 9 (lN R.2.2.1)) r = J r := fun r hr => by
    simp only [List.mem_cons, List.not_mem_nil, or_false, not_or] at hr
    rw [mm_set_ne hr.1, F.2 r hr.2.1]
  have fJ' : ∀ (v : Int64) r, r ∉ [0, 24, 45] → (mm_set (mm_set J1 0 9 (lN R.2.2.1)) 45 0 v) r = J r := fun v r hr => by
    rw [mm_set_ne (by simp only [List.mem_cons, List.not_mem_nil, or_false, not_or] at hr; exact hr.2.2), fJ r hr]
  rcases hr : R.1 with _ | _ | _ | z
  · refine ⟨mm_set I1 0 8 (nI (2000 - R.2.1)), mm_set (mm_set J1 0 9 (lN R.2.2.1)) 45 0 1, ?_, mm_at, by rw [mm_set_ne (by decide)]; exact mm_at, fun _ => mm_at, fun z => absurd z (by decide), fun _ => ⟨fI 11 (by decide), fI 12 (by decide)⟩, fun z => absurd z (by decide), fI', fJ' 1⟩
    rw [if_neg (by decide)]
    exact b89_0 (r := 1) (pre (b90_41 hR3 (fun _ => b90_61 hR3 (fun _ => b90_79 hR3 (fun z => absurd z (by omega)) (fun _ => b90_86 (b90_91 (Or.inr rfl)))) (fun z => absurd (by omega) z)) (fun z => absurd (by omega) z))) (b89_8 (fun z => absurd z (by decide)) (fun _ => b89_11 (b89_16 (by unfold vp_in; decide) b89_32)))
  · have hH0 : HT true cnt fld fty ((mm_set I1 0 8 (nI (2000 - R.2.1))) 14) ((mm_set I1 0 8 (nI (2000 - R.2.1))) 15) ((mm_set I1 0 8 (nI (2000 - R.2.1))) 16) e (trs R.2.2.2) t 0 := by
      rw [mm_set_ne (by decide), mm_set_ne (by decide), mm_set_ne (by decide)]; exact c3 hr
    obtain ⟨I2, r2, hRW, f2⟩ := @c47 l X (d + 25 - e) (mm_set I1 0 8 (nI (2000 - R.2.1))) (mm_set J1 0 9 (lN R.2.2.1)) 0 0 cnt fld fty t e _ hT.1.tw (by omega) ht hH0
    rw [show d + 25 - e + e + 3 = d + 28 by omega] at r2
    refine ⟨I2, mm_set (mm_set J1 0 9 (lN R.2.2.1)) 45 0 0, ?_, by rw [f2 0 (by decide) (by decide)]; exact mm_at, by rw [mm_set_ne (by decide)]; exact mm_at, fun z => absurd z (by decide), fun _ => mm_at, fun z => absurd rfl z, fun _ => ⟨hRW, Nat.le_trans (preT_len hT.1.tw e _ t 0 ht hH0) (bnd_le (by omega))⟩, fun r hr => ?_, fJ' 0⟩
    · rw [if_neg (by decide)]
      exact b89_0 (r := 0) (pre (b90_41 hR3 (fun _ => b90_61 hR3 (fun z => absurd (by omega) z) (fun _ => b90_68 r2 (b90_79 hR3 (fun _ => b90_90 (b90_91 (Or.inl rfl))) (fun z => absurd (by omega) z)))) (fun z => absurd (by omega) z))) (b89_8 (fun _ => b89_15 (b89_16 (by unfold vp_in; decide) b89_32)) (fun z => absurd rfl z))
    · have := fI' r hr
      simp only [List.mem_cons, List.not_mem_nil, or_false, not_or] at hr
      rw [f2 r hr.2.1 hr.2.2.1, this]
  · refine ⟨mm_set I1 0 8 (nI (2000 - R.2.1)), mm_set J1 0 9 (lN R.2.2.1), ?_, mm_at, mm_at, fun z => absurd z (by decide), fun z => absurd z (by decide), fun _ => ⟨fI 11 (by decide), fI 12 (by decide)⟩, fun z => absurd z (by decide), fI', fJ⟩
    rw [if_pos (by decide)]
    exact b89_0c2 (mc := 0) (ms := 0) (pre (b90_41 hR3 (fun z => absurd (by omega) z) (fun _ => b90_51))) b89_28
  · omega
end REFH
