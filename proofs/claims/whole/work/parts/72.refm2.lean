section REFM2
variable {l : Launch} {X : Nat × (Nat → Int32)} {d : Nat} {I I' : Nat → Nat → Int32} {J J' : Nat → Nat → Int64} {mc ms : Nat} {cnt fld fty : Nat → Nat} {t e n h most f P : Nat} {kd fa fb ly : Nat → Nat} {x y k : Int32} {L : List (Nat × Nat)}
/-- turn -/
theorem c139 (hw : PW n h kd fa fb ly) (hh : 0 < h) (ht : t < 6) (hm : most ≤ 4) (hf : f < 2000) (hP0 : P ≤ mny) (hG : GS cnt fld fty most t L) (hp : ∀ y, y ∈ L → 0 < y.2) (hl : L.length ≤ 121) (hT : TV I 27 28 29 cnt fld fty) (hJ : MJ cnt fld fty J) (hP : PM n h kd fa fb ly I) (h24 : I 26 24 = nI most) (hH : HT false cnt fld fty (I 33) (I 32) (I 32) most (trs L) t 0) (hN : ∀ x, x < 256 → I 32 x = -2 → lv fld fty most (trs L) t 0 x) (h21 : I 26 21 = nI L.length) (hS : SKm (I 43) (I 44) L) (h25 : I 26 25 = nI (2000 - (f + 1))) (h26 : J 26 26 = lN P) {E W : Nat} (hE : E = stE fld fty kd fa fb most t (ly (h - 1)) L) (hW : W = stW cnt fld fty most t L) :
    ∃ r I' J', mm_Call l X 139 (d + 5) [.ref 26] (mm_Λ, I, J) mc ms (.inl (some (.int r))) (mm_Λ, I', J') ∧ FR I I' J J' ∧ I' 26 25 = nI (2000 - f) ∧
      ((E = 0 ∧ 0 < W) → r = 2 ∧ J' 26 26 = lN P ∧ HT false cnt fld fty (I' 33) (I' 32) (I' 32) most (trs L) t 0) ∧
      (¬ (E = 0 ∧ 0 < W) → J' 26 26 = lN (if E = 1 then min (P + W) mny else P) ∧ (adS cnt fld fty most t (if E < 2 then L else (E - 2, 0) :: L) = none → r = 1) ∧
        ∀ L', adS cnt fld fty most t (if E < 2 then L else (E - 2, 0) :: L) = some L' → r = 0 ∧ HT false cnt fld fty (I' 33) (I' 32) (I' 32) most (trs L') t 0 ∧ (∀ x, x < 256 → I' 32 x = -2 → lv fld fty most (trs L') t 0 x) ∧ I' 26 21 = nI L'.length ∧ SKm (I' 43) (I' 44) L') := by
  have hlt : E < 1000 := by rw [hE]; exact ev_lt hT.tw hw hm ht hH (hw.2.2.2 (h - 1) (by omega))
  have hmn := mny_lt
  have hWm : W ≤ mny := by rw [hW]; exact Nat.min_le_right _ _
  have F1 : FR I (mm_set I 26 25 (nI (2000 - f))) J J := FR.w25
  have hH1 : HT false cnt fld fty ((mm_set I 26 25 (nI (2000 - f))) 33) ((mm_set I 26 25 (nI (2000 - f))) 32) ((mm_set I 26 25 (nI (2000 - f))) 32) most (trs L) t 0 := by
    rw [mm_set_ne (by decide), mm_set_ne (by decide)]; exact hH
  obtain ⟨I2, J2, r2, s2⟩ := @c133 l X d (mm_set I 26 25 (nI (2000 - f))) J 0 0 cnt fld fty t n h most kd fa fb ly (trs L) (F1.tv hT) (F1.pm hP) hw hh hm ht hH1
  have F2 : FR I I2 J J2 := F1.trans s2.fr
  have k33 : I2 33 = I 33 := by rw [s2.2.1 33 (by decide), mm_set_ne (by decide)]
  have k32 : I2 32 = I 32 := by rw [s2.2.1 32 (by decide), mm_set_ne (by decide)]
  have k43 : I2 43 = I 43 := by rw [s2.2.1 43 (by decide), mm_set_ne (by decide)]
  have k44 : I2 44 = I 44 := by rw [s2.2.1 44 (by decide), mm_set_ne (by decide)]
  have k24 : I2 26 24 = nI most := by rw [F2.2.1 24 (by decide)]; exact h24
  have k21 : I2 26 21 = nI L.length := by rw [s2.2.2.1 21 (by decide), mm_set_eq]; exact h21
  have k25 : I2 26 25 = nI (2000 - f) := by rw [s2.2.2.1 25 (by decide)]; exact mm_at
  have k26 : J2 26 26 = lN P := by rw [s2.2.2.2 26 (by decide)]; exact h26
  have hH2 : HT false cnt fld fty (I2 33) (I2 32) (I2 32) most (trs L) t 0 := by rw [k33, k32]; exact hH
  have hN2 : ∀ x, x < 256 → I2 32 x = -2 → lv fld fty most (trs L) t 0 x := by rw [k32]; exact hN
  have r140 := @c140S l X (d + 3) I2 J2 0 0 cnt fld fty t most L (F2.tv hT) hm ht (F2.mj hJ) k24 hH2 hN2
  rw [← hW] at r140
  rw [show evE (tvF fld fty (trs L) t) (svF fld fty most (trs L) t) kd fa fb (ly (h - 1)) = E from hE.symm] at r2
  have pre : ∀ {o : mm_O} {σ' : mm_S}, mm_Run l X 139 (d + 5) 14 [.ref 26, .null] [.int (nI E)] (mm_Λ, I2, J2) mc ms o σ' → mm_Call l X 139 (d + 5) [.ref 26] (mm_Λ, I, J) mc ms o σ' := fun rr => by
    refine b139_0 (I1 := I2) (J1 := J2) ?_ rr
    rw [h25, nI_1, show 2000 - (f + 1) + 1 = 2000 - f by omega]
    exact r2
  have tail : ∀ (x1 : Int32) (L3 : List (Nat × Nat)) (I3 : Nat → Nat → Int32) (J3 : Nat → Nat → Int64), ¬ (E = 0 ∧ 0 < W) → L3 = (if E < 2 then L else (E - 2, 0) :: L) → L3.length ≤ 121 → GS cnt fld fty most t L3 → FR I I3 J J3 → HT false cnt fld fty (I3 33) (I3 32) (I3 32) most (trs L3) t 0 → (∀ x, x < 256 → I3 32 x = -2 → lv fld fty most (trs L3) t 0 x) → I3 26 21 = nI L3.length → SKm (I3 43) (I3 44) L3 → I3 26 25 = nI (2000 - f) → J3 26 26 = lN (if E = 1 then min (P + W) mny else P) →
      ∃ r I', mm_Run l X 139 (d + 5) 87 [.ref 26, .int x1] [] (mm_Λ, I3, J3) mc ms (.inl (some (.int r))) (mm_Λ, I', J3) ∧ FR I I' J J3 ∧ I' 26 25 = nI (2000 - f) ∧
        ((E = 0 ∧ 0 < W) → r = 2 ∧ J3 26 26 = lN P ∧ HT false cnt fld fty (I' 33) (I' 32) (I' 32) most (trs L) t 0) ∧
        (¬ (E = 0 ∧ 0 < W) → J3 26 26 = lN (if E = 1 then min (P + W) mny else P) ∧ (adS cnt fld fty most t (if E < 2 then L else (E - 2, 0) :: L) = none → r = 1) ∧
          ∀ L', adS cnt fld fty most t (if E < 2 then L else (E - 2, 0) :: L) = some L' → r = 0 ∧ HT false cnt fld fty (I' 33) (I' 32) (I' 32) most (trs L') t 0 ∧ (∀ x, x < 256 → I' 32 x = -2 → lv fld fty most (trs L') t 0 x) ∧ I' 26 21 = nI L'.length ∧ SKm (I' 43) (I' 44) L') := by
    intro x1 L3 I3 J3 hne eL hl3 hG3 F3 hH3 hN3 g21 gS g25 g26
    obtain ⟨I4, r4, f1, f2, f3⟩ := @c141_loop l X (d + 2) J3 0 0 cnt fld fty t most hm ht L3 I3 hl3 hG3 (F3.tv hT) (by rw [F3.2.1 24 (by decide)]; exact h24) hH3 hN3 g21 gS
    have F4 : FR I3 I4 J3 J3 := ⟨fun r hr => f1 r (by simp only [List.mem_cons, List.not_mem_nil, or_false, not_or] at hr ⊢; omega), fun i hi => f2 i (by simp only [List.mem_cons, List.not_mem_nil, or_false, not_or] at hi; exact hi.2.1), fun _ _ => rfl⟩
    rw [← eL]
    rcases had : adS cnt fld fty most t L3 with _ | L'
    · rw [had] at r4
      refine ⟨1, I4, b139_87 r4 (b139_91 (fun _ => b139_98 b139_99) (fun z => absurd rfl z)), F3.trans F4, by rw [f2 25 (by decide)]; exact g25, fun z => absurd z hne, fun _ => ⟨g26, fun _ => rfl, fun L' z => by simp at z⟩⟩
    · rw [had] at r4
      refine ⟨0, I4, b139_87 r4 (b139_91 (fun z => absurd z (by show ¬ (1 : Int32) = 0; decide)) (fun _ => b139_94 b139_99)), F3.trans F4, by rw [f2 25 (by decide)]; exact g25, fun z => absurd z hne, fun _ => ⟨g26, fun z => by simp at z, fun L'' z => ?_⟩⟩
      have := Option.some.inj z
      subst this
      exact ⟨rfl, f3 L' had⟩
  by_cases e0 : E = 0
  · by_cases hpos : 0 < W
    · refine ⟨2, I2, J2, pre (b139_14 (fun z => absurd (by rw [e0]; rfl) z) (fun _ => b139_19 r140 (b139_23 (fun z => absurd z fun w => ?_) (fun _ => b139_28)))), F2, k25, fun _ => ⟨rfl, k26, hH2⟩, fun z => absurd ⟨e0, hpos⟩ z⟩
      exact absurd ((gL_le (b := 0) (by omega) (by omega)).mp ((lgcle _ _).mp w)) (by omega)
    · obtain ⟨r, I', rr, c0, c1, c2, c3⟩ := tail (nI E) L I2 J2 (fun z => hpos z.2) (by rw [if_pos (by omega)]) hl hG F2 hH2 hN2 k21 (by rw [k43, k44]; exact hS) k25 (by rw [if_neg (by omega)]; exact k26)
      refine ⟨r, I', J2, pre (b139_14 (fun z => absurd (by rw [e0]; rfl) z) (fun _ => b139_19 r140 (b139_23 (fun _ => b139_30 (fun _ => b139_50 (fun _ => rr) (fun z => absurd (by rw [e0]; decide) z)) (fun z => absurd (by rw [e0]; decide) z)) (fun z => absurd ((lgcle _ _).mpr ((gL_le (b := 0) (by omega) (by omega)).mpr (by omega))) z)))), c0, c1, c2, c3⟩
  · have n0 : ¬ nI E = 0 := fun z => e0 ((nI_eq (b := 0) (by omega) (by omega)).mp z)
    by_cases e1 : E = 1
    · have F3 : FR I I2 J (mm_set J2 26 26 (lN (min (P + W) mny))) := F2.trans FR.w26
      obtain ⟨r, I', rr, c0, c1, c2, c3⟩ := tail (nI E) L I2 (mm_set J2 26 26 (lN (min (P + W) mny))) (fun z => e0 z.1) (by rw [if_pos (by omega)]) hl hG F3 hH2 hN2 k21 (by rw [k43, k44]; exact hS) k25 (by rw [if_pos e1]; exact mm_at)
      have r109 := @c109 l X (d + 4) I2 J2 0 0 (lN P) (lN W)
      rw [csI_N hP0 hWm] at r109
      refine ⟨r, I', _, pre (b139_14 (fun _ => b139_30 (fun z => absurd (by rw [e1]; rfl) z) (fun _ => b139_35 r140 ?_)) (fun z => absurd n0 z)), c0, c1, c2, c3⟩
      rw [k26]
      exact b139_44 r109 (b139_47 (b139_50 (fun _ => rr) (fun z => absurd (by rw [e1]; decide) z)))
    · obtain ⟨q, hq⟩ : ∃ q, E = q + 2 := ⟨E - 2, by omega⟩
      have n1 : ¬ nI E = 1 := fun z => e1 ((nI_eq (b := 1) (by omega) (by omega)).mp z)
      obtain ⟨τ', t', hg, h0⟩ := got_ev (r := q) hT.tw hw hm ht hH (ly (h - 1) + 1) (ly (h - 1)) (by omega) (hw.2.2.2 (h - 1) (by omega)) (hE.symm.trans hq)
      obtain ⟨p1, p2, p3⟩ := GS_push hT.tw ht hm hG hp hH hg h0
      have F3 : FR I2 (mm_set (mm_set (mm_set I2 43 L.length (nI q)) 44 L.length (-1)) 26 21 (nI (L.length + 1))) J2 J2 := by
        refine ⟨fun r hr => ?_, fun i hi => ?_, fun _ _ => rfl⟩
        · simp only [List.mem_cons, List.not_mem_nil, or_false, not_or] at hr
          rw [mm_set_ne hr.1, mm_set_ne hr.2.2.2.2.2.2.2, mm_set_ne hr.2.2.2.2.2.2.1]
        · simp only [List.mem_cons, List.not_mem_nil, or_false, not_or] at hi
          simp [mm_set, hi.2.1]
      obtain ⟨r, I', rr, c0, c1, c2, c3⟩ := tail (nI E) ((q, 0) :: L) (mm_set (mm_set (mm_set I2 43 L.length (nI q)) 44 L.length (-1)) 26 21 (nI (L.length + 1))) J2 (fun z => e0 z.1) (by rw [if_neg (by omega), hq]; rfl) (by rw [List.length_cons]; omega) p1 (F2.trans F3)
        (by rw [p2, mm_set_ne (by decide), mm_set_ne (by decide), mm_set_ne (by decide), mm_set_ne (by decide), mm_set_ne (by decide), mm_set_ne (by decide)]; exact hH2)
        (by rw [p2, mm_set_ne (by decide), mm_set_ne (by decide), mm_set_ne (by decide)]; exact hN2) mm_at
        ⟨by rw [mm_set_ne (by decide), mm_set_ne (by decide)]; exact mm_at, by rw [mm_set_ne (by decide)]; exact mm_at, hS.of L fun j hj => by
          have : j ≠ L.length := by omega
          simp [mm_set, this, k43, k44]⟩ (by simp [mm_set]; exact k25) (by rw [if_neg e1]; exact k26)
      refine ⟨r, I', J2, pre (b139_14 (fun _ => b139_30 (fun _ => b139_50 (fun z => absurd z (by rw [hq]; exact nI_ge (a := 1) (by omega) (by omega))) (fun _ => ?_)) (fun z => absurd n1 z)) (fun z => absurd n0 z)), c0, c1, c2, c3⟩
      have q55 := @b139_55 l X (d + 4) I2 J2 (nI E) mc ms (.inl (some (.int r))) (mm_Λ, I', J2)
      rw [k21, nI_1, ix_cl (by omega), hq, show (2 : Int32) = nI 2 from rfl, nI_sub (by omega), Nat.add_sub_cancel, ← hq] at q55
      exact q55 (ix_in (by omega) (by omega)) (ix_in (by omega) (by omega)) rr
/-- what refine may change -/
def FQ (I I' : Nat → Nat → Int32) (J J' : Nat → Nat → Int64) : Prop := (∀ r, r ∉ [26, 32, 33, 34, 35, 36, 41, 43, 44] → I' r = I r) ∧ (∀ i, i ∉ [0, 8, 10, 21, 24, 25] → I' 26 i = I 26 i) ∧ ∀ r, r ∉ [26, 30, 37] → J' r = J r
theorem FQ.trans {I'' : Nat → Nat → Int32} {J'' : Nat → Nat → Int64} (h : FQ I I' J J') (h' : FQ I' I'' J' J'') : FQ I I'' J J'' := ⟨fun r hr => by rw [h'.1 r hr, h.1 r hr], fun r hr => by rw [h'.2.1 r hr, h.2.1 r hr], fun r hr => by rw [h'.2.2 r hr, h.2.2 r hr]⟩
theorem FR.fq (h : FR I I' J J') : FQ I I' J J' := ⟨fun r hr => h.1 r (by simp only [List.mem_cons, List.not_mem_nil, or_false, not_or] at hr ⊢; omega), fun r hr => h.2.1 r (by simp only [List.mem_cons, List.not_mem_nil, or_false, not_or] at hr ⊢; omega), fun r hr => h.2.2 r (by simp only [List.mem_cons, List.not_mem_nil, or_false, not_or] at hr ⊢; omega)⟩
theorem c138_loop (hw : PW n h kd fa fb ly) (hh : 0 < h) (ht : t < 6) (hm : most ≤ 4) : ∀ (f : Nat) (L : List (Nat × Nat)) (P : Nat) (I : Nat → Nat → Int32) (J : Nat → Nat → Int64) (R : Nat × Nat × Nat × List (Nat × Nat)), R = rfS (stE fld fty kd fa fb most t (ly (h - 1))) (stW cnt fld fty most t) (adS cnt fld fty most t) f L P → f ≤ 2000 → P ≤ mny → GS cnt fld fty most t L → (∀ y, y ∈ L → 0 < y.2) → L.length ≤ 121 → TV I 27 28 29 cnt fld fty → MJ cnt fld fty J → PM n h kd fa fb ly I → I 26 24 = nI most → HT false cnt fld fty (I 33) (I 32) (I 32) most (trs L) t 0 → (∀ x, x < 256 → I 32 x = -2 → lv fld fty most (trs L) t 0 x) → I 26 21 = nI L.length → SKm (I 43) (I 44) L → I 26 25 = nI (2000 - f) → J 26 26 = lN P →
    ∃ b I' J', mm_Run l X 138 (d + 6) 82 [.ref 26, .int (nI t), .int (nI most), .int 0] [] (mm_Λ, I, J) mc ms (.inl (some (.int b))) (mm_Λ, I', J') ∧ FQ I I' J J' ∧ I' 26 25 = nI (2000 - R.2.1) ∧ J' 26 26 = lN R.2.2.1 ∧ (R.1 = 2 → I' 26 0 = 3) ∧ (R.1 ≠ 2 → I' 26 0 = I 26 0) ∧ (R.1 = 0 → b = 1) ∧ (R.1 = 1 → b = 0 ∧ RW (I' 26 8) (I' 34) (preT fld fty most (trs R.2.2.2) t)) ∧ (R.1 ≠ 1 → I' 26 8 = I 26 8 ∧ I' 34 = I 34)
  | 0, L, P, I, J, R, hR, hf, hP0, hG, hp, hl, hT, hJ, hP, h24, hH, hN, h21, hS, h25, h26 => by
    have eR : R = (2, 0, P, L) := by rw [hR, rfS]
    subst eR
    refine ⟨0, mm_set I 26 0 3, J, b138_82 (fun z => absurd rfl z) (fun _ => b138_86 (fun z => absurd (by rw [h25]; rfl) z) (fun _ => b138_96)), ⟨fun r hr => mm_set_ne (by simp only [List.mem_cons, List.not_mem_nil, or_false, not_or] at hr; exact hr.1), fun i hi => ?_, fun _ _ => rfl⟩, by simp [mm_set]; exact h25, h26, fun _ => mm_at, fun z => absurd rfl z, fun z => absurd z (by show ¬ (2 : Nat) = 0; decide), fun z => absurd z (by show ¬ (2 : Nat) = 1; decide), fun _ => ⟨by simp [mm_set], mm_set_ne (by decide)⟩⟩
    simp only [List.mem_cons, List.not_mem_nil, or_false, not_or] at hi
    simp [mm_set, hi.1]
  | f + 1, L, P, I, J, R, hR, hf, hP0, hG, hp, hl, hT, hJ, hP, h24, hH, hN, h21, hS, h25, h26 => by
    obtain ⟨r, I1, J1, r1, F1, k25, a1, a2⟩ := @c139 l X d I J 0 0 cnt fld fty t n h most f P kd fa fb ly L hw hh ht hm (by omega) hP0 hG hp hl hT hJ hP h24 hH hN h21 hS h25 h26 _ _ rfl rfl
    have pre : ∀ {o : mm_O} {σ' : mm_S}, mm_Run l X 138 (d + 6) 82 [.ref 26, .int (nI t), .int (nI most), .int r] [] (mm_Λ, I1, J1) mc ms o σ' → mm_Run l X 138 (d + 6) 82 [.ref 26, .int (nI t), .int (nI most), .int 0] [] (mm_Λ, I, J) mc ms o σ' := fun rr =>
      b138_82 (fun z => absurd rfl z) (fun _ => b138_86 (fun _ => b138_103 r1 (b138_107 rr)) (fun z => absurd (fun w => by
        rw [h25] at w
        have := (nI_eq (b := 2000) (by omega) (by omega)).mp w
        omega) z))
    by_cases hc : stE fld fty kd fa fb most t (ly (h - 1)) L = 0 ∧ 0 < stW cnt fld fty most t L
    · obtain ⟨z1, z2, z3⟩ := a1 hc
      subst z1
      have eR : R = (1, f, P, L) := by rw [hR, rfS_1 hc]
      subst eR
      obtain ⟨I4, J4, r4, hRW, s4⟩ := @c122 l X (d + 4) I1 J1 0 0 cnt fld fty t most _ hm ht (F1.tv hT) z3
      refine ⟨0, I4, J4, pre (b138_82 (fun _ => b138_111 (fun z => absurd rfl z) (fun _ => b138_116 r4 (b138_120 (fun _ => b138_129 (b138_130 (Or.inl rfl))) (fun z => absurd (by decide) z)))) (fun z => absurd (by decide) z)), F1.fq.trans ⟨fun r hr => s4.2.1 r (by simp only [List.mem_cons, List.not_mem_nil, or_false, not_or] at hr ⊢; omega), fun i hi => s4.2.2.1 i (by simp only [List.mem_cons, List.not_mem_nil, or_false, not_or] at hi ⊢; omega), fun r hr => s4.2.2.2 r (by simp only [List.mem_cons, List.not_mem_nil, or_false, not_or] at hr; exact hr.2.2)⟩, ?_, ?_, fun z => absurd z (by show ¬ (1 : Nat) = 2; decide), fun _ => ?_, fun z => absurd z (by show ¬ (1 : Nat) = 0; decide), fun _ => ⟨rfl, hRW⟩, fun z => absurd rfl z⟩
      · rw [s4.2.2.1 25 (by decide)]; exact k25
      · rw [s4.2.2.2 26 (by decide)]; exact z2
      · rw [s4.2.2.1 0 (by decide), F1.2.1 0 (by decide)]
    · obtain ⟨z1, z2, z3⟩ := a2 hc
      rcases had : adS cnt fld fty most t (if stE fld fty kd fa fb most t (ly (h - 1)) L < 2 then L else (stE fld fty kd fa fb most t (ly (h - 1)) L - 2, 0) :: L) with _ | L'
      · have er := z2 had
        subst er
        have eR := hR.trans (rfS_n (P := P) (f := f) hc had)
        rw [eR]
        refine ⟨1, I1, J1, pre (b138_82 (fun _ => b138_111 (fun _ => b138_120 (fun z => absurd rfl z) (fun _ => b138_125 (b138_130 (Or.inr rfl)))) (fun z => absurd (by decide) z)) (fun z => absurd (by decide) z)), F1.fq, k25, z1, fun z => absurd z (by show ¬ (0 : Nat) = 2; decide), fun _ => F1.2.1 0 (by decide), fun _ => rfl, fun z => absurd z (by show ¬ (0 : Nat) = 1; decide), fun _ => ⟨F1.2.1 8 (by decide), F1.1 34 (by decide)⟩⟩
      · obtain ⟨er, y1, y2, y3, y4⟩ := z3 L' had
        subst er
        have eR := hR.trans (rfS_s (P := P) (f := f) hc had)
        have hG3 : GS cnt fld fty most t (if stE fld fty kd fa fb most t (ly (h - 1)) L < 2 then L else (stE fld fty kd fa fb most t (ly (h - 1)) L - 2, 0) :: L) ∧ (if stE fld fty kd fa fb most t (ly (h - 1)) L < 2 then L else (stE fld fty kd fa fb most t (ly (h - 1)) L - 2, 0) :: L).length ≤ 121 := by
          split
          · exact ⟨hG, hl⟩
          · obtain ⟨τ', t', hg, h0⟩ := got_ev (r := stE fld fty kd fa fb most t (ly (h - 1)) L - 2) hT.tw hw hm ht hH (ly (h - 1) + 1) (ly (h - 1)) (by omega) (hw.2.2.2 (h - 1) (by omega)) (by
              have : evE (tvF fld fty (trs L) t) (svF fld fty most (trs L) t) kd fa fb (ly (h - 1)) = stE fld fty kd fa fb most t (ly (h - 1)) L := rfl
              omega)
            obtain ⟨p1, p2, p3⟩ := GS_push hT.tw ht hm hG hp hH hg h0
            exact ⟨p1, by rw [List.length_cons]; omega⟩
        obtain ⟨w1, w2, w3⟩ := adS_ok _ hG3.1 had
        have hP3 : (if stE fld fty kd fa fb most t (ly (h - 1)) L = 1 then min (P + stW cnt fld fty most t L) mny else P) ≤ mny := by
          split
          · exact Nat.min_le_right _ _
          · exact hP0
        obtain ⟨b, I', J', rr, c1, c2, c3, c4, c5, c6, c7, c8⟩ := c138_loop hw hh ht hm f L' _ I1 J1 R eR (by omega) hP3 w1 w2 (by have := hG3.2; omega) (F1.tv hT) (F1.mj hJ) (F1.pm hP) (by rw [F1.2.1 24 (by decide)]; exact h24) y1 y2 y3 y4 k25 z1
        refine ⟨b, I', J', pre rr, F1.fq.trans c1, c2, c3, c4, fun z => ?_, c6, c7, fun z => ?_⟩
        · rw [c5 z, F1.2.1 0 (by decide)]
        · obtain ⟨v1, v2⟩ := c8 z
          exact ⟨by rw [v1, F1.2.1 8 (by decide)], by rw [v2, F1.1 34 (by decide)]⟩
/-- the reference's refusals -/
theorem m_refine_no (hP : PM n h kd fa fb ly I) (hn : h ≤ 20) (hb : rbar h x y k) : mm_Call l X 138 (d + 6) [.ref 26, .int x, .int y] (mm_Λ, I, J) mc ms (.inl (some (.int 0))) (mm_Λ, mm_set I 26 0 k, J) := by
  have st2 : ∀ k : Int32, mm_set (mm_set I 26 0 0) 26 0 k = mm_set I 26 0 k := fun k => by
    funext q j
    simp only [mm_set]
    by_cases h1 : q = 26 <;> by_cases h2 : j = 0 <;> simp [h1, h2]
  rcases hb with ⟨h1, rfl⟩ | ⟨h1, h2, rfl⟩ | ⟨h1, h2, h3, rfl⟩
  · exact b138_0 (c104 (Or.inl ⟨h1, rfl⟩)) (b138_6 (fun _ => b138_28 (fun z => absurd z (by rw [mm_at]; decide)) (fun _ => b138_35)) (fun z => absurd (by decide) z))
  · exact b138_0 (c104 (Or.inr (Or.inl ⟨h1, h2, rfl⟩))) (b138_6 (fun _ => b138_28 (fun z => absurd z (by rw [mm_at]; decide)) (fun _ => b138_35)) (fun z => absurd (by decide) z))
  · refine b138_0 (c104 (Or.inr (Or.inr ⟨h1, h2, rfl⟩))) (b138_6 (fun z => absurd rfl z) (fun _ => b138_16 (fun z => absurd ?_ z) (fun _ => b138_23 ?_)))
    · simp [mm_set]
      rw [hP.2.1, h3]; rfl
    · rw [st2]
      exact b138_28 (fun z => absurd z (by rw [mm_at]; decide)) (fun _ => b138_35)
theorem m_refine (hT : TI cnt fld fty I J) (hP : PM n h kd fa fb ly I) (hw : PW n h kd fa fb ly) (hh : 0 < h) (ht : t < 6) (he : e < 5) {R : Nat × Nat × Nat × List (Nat × Nat)} (hR : R = rfR cnt fld fty kd fa fb e t (ly (h - 1))) :
    ∃ b I1 J1, mm_Call l X 138 (d + 6) [.ref 26, .int (nI t), .int (nI e)] (mm_Λ, I, J) mc ms (.inl (some (.int b))) (mm_Λ, I1, J1) ∧ FQ I I1 J J1 ∧ I1 26 25 = nI (2000 - R.2.1) ∧ J1 26 26 = lN R.2.2.1 ∧ I1 26 0 = (if R.1 = 2 then 3 else 0) ∧ (R.1 = 0 → b = 1) ∧ (R.1 = 1 → b = 0 ∧ RW (I1 26 8) (I1 34) (preT fld fty e (trs R.2.2.2) t)) ∧ (R.1 ≠ 1 → I1 26 8 = I 26 8 ∧ I1 34 = I 34) := by
  have h20 := hw.1
  have h2n := hw.2.1
  have hT' : TV (mm_set I 26 0 0) 27 28 29 cnt fld fty := hT.2.1.of (mm_set_ne (by decide)) (mm_set_ne (by decide)) (mm_set_ne (by decide))
  obtain ⟨J2, r5, hp⟩ := @c105 l X (d + 3) (mm_set I 26 0 0) J 0 0 cnt fld fty hT'
  have hMJ : MJ cnt fld fty J2 := fun e' u a b => hp.2 e' u a b (Or.inl a)
  obtain ⟨I2, r6, f6, g6⟩ := @c118 l X (d + 5) (mm_set I 26 0 0) J2 0 0
  have k26 : I2 26 = (mm_set I 26 0 0) 26 := f6 26 (by decide)
  have hq : ∀ r, r ∉ [26, 32, 33] → (mm_set (mm_set (mm_set (mm_set (mm_set I2 32 0 (-2)) 33 0 (nI t)) 26 24 (nI e)) 26 21 0) 26 25 0) r = I r := fun r hr => by
    simp only [List.mem_cons, List.not_mem_nil, or_false, not_or] at hr
    rw [mm_set_ne hr.1, mm_set_ne hr.1, mm_set_ne hr.1, mm_set_ne hr.2.2, mm_set_ne hr.2.1, f6 r hr.2.1, mm_set_ne hr.1]
  have hq26 : ∀ i, i ∉ [0, 21, 24, 25] → (mm_set (mm_set (mm_set (mm_set (mm_set I2 32 0 (-2)) 33 0 (nI t)) 26 24 (nI e)) 26 21 0) 26 25 0) 26 i = I 26 i := fun i hi => by
    simp only [List.mem_cons, List.not_mem_nil, or_false, not_or] at hi
    have : I2 26 i = I 26 i := by rw [k26]; simp [mm_set, hi.1]
    simp [mm_set, hi.2.1, hi.2.2.1, hi.2.2.2, this]
  have hz : (mm_set (mm_set (mm_set (mm_set (mm_set I2 32 0 (-2)) 33 0 (nI t)) 26 24 (nI e)) 26 21 0) 26 25 0) 26 0 = 0 := by
    have : I2 26 0 = 0 := by rw [k26]; exact mm_at
    simp [mm_set, this]
  obtain ⟨b, I', J', rr, F, c1, c2, c3, c4, c5, c6, c7⟩ := @c138_loop l X d mc ms cnt fld fty t n h e kd fa fb ly hw hh ht (by omega) 2000 [] 0 (mm_set (mm_set (mm_set (mm_set (mm_set I2 32 0 (-2)) 33 0 (nI t)) 26 24 (nI e)) 26 21 0) 26 25 0) (mm_set J2 26 26 0) R hR (Nat.le_refl _) (Nat.zero_le _) trivial (fun y hy => by simp at hy) (by simp)
    (hT.2.1.of (hq 27 (by decide)) (hq 28 (by decide)) (hq 29 (by decide))) (fun a b c d => by rw [mm_set_ne (by decide)]; exact hMJ a b c d) (hP.of (hq26 14 (by decide)) (hq26 19 (by decide)) (hq 38 (by decide)) (hq 39 (by decide)) (hq 40 (by decide)) (hq 42 (by decide))) (by simp [mm_set])
    (HT.isH (by simp [mm_set]) (by simp [mm_set]) (fun z => absurd z (by decide)))
    (fun x hx hA => by
      by_cases e0 : x = 0
      · rw [e0]; exact lv_self fld fty _ _ _ _
      · have : (mm_set (mm_set (mm_set (mm_set (mm_set I2 32 0 (-2)) 33 0 (nI t)) 26 24 (nI e)) 26 21 0) 26 25 0) 32 x = -1 := by simp [mm_set, e0]; exact g6 x hx
        rw [this] at hA
        exact absurd hA (by decide)) (by simp [mm_set]; rfl) trivial (by simp [mm_set]; rfl) (by simp [mm_set]; rfl)
  refine ⟨b, I', J', b138_0 (c104 (Or.inr (Or.inr ⟨isT_of ht, isD_of he, rfl⟩))) (b138_6 (fun z => absurd rfl z) (fun _ => b138_16 (fun _ => b138_28 (fun _ => b138_37 r5 (b138_41 r6 (b138_45 rr))) (fun z => absurd (by rw [mm_at]; decide) z)) (fun z => absurd (fun w => ?_) z))), ⟨fun r hr => ?_, fun i hi => ?_, fun r hr => ?_⟩, c1, c2, ?_, c5, c6, fun z => ?_⟩
  · have e1 : (mm_set I 26 0 0) 26 19 = nI h := by simp [mm_set]; exact hP.2.1
    rw [e1] at w
    have := (nI_eq (b := 0) (by omega) (by omega)).mp w
    omega
  · rw [F.1 r hr, hq r (by simp only [List.mem_cons, List.not_mem_nil, or_false, not_or] at hr ⊢; omega)]
  · rw [F.2.1 i hi, hq26 i (by simp only [List.mem_cons, List.not_mem_nil, or_false, not_or] at hi ⊢; omega)]
  · rw [F.2.2 r hr]
    simp only [List.mem_cons, List.not_mem_nil, or_false, not_or] at hr
    rw [mm_set_ne hr.1, hp.1 r hr.2.1]
  · by_cases e2 : R.1 = 2
    · rw [if_pos e2]; exact c3 e2
    · rw [if_neg e2, c4 e2]; exact hz
  · obtain ⟨v1, v2⟩ := c7 z
    exact ⟨by rw [v1, hq26 8 (by decide)], by rw [v2, hq 34 (by decide)]⟩
end REFM2
