/-! ===== refine of the class ===== -/
section REFC
variable {l : Launch} {X : Nat × (Nat → Int32)} {d : Nat} {I I' : Nat → Nat → Int32} {J J' : Nat → Nat → Int64} {mc ms : Nat} {cnt fld fty : Nat → Nat} {t e n h most : Nat} {kd fa fb ly : Nat → Nat} {x y k : Int32}
theorem c95_loop (hm : most ≤ 4) (ht : t < 6) : ∀ (L : List (Nat × Nat)) (I : Nat → Nat → Int32), L.length ≤ 121 → GS cnt fld fty most t L → TV I 2 3 4 cnt fld fty → HT true cnt fld fty (I 14) (I 15) (I 16) most (trs L) t 0 → I 24 3 = nI L.length → SKc (I 25) L →
    ∃ I', mm_Run l X 95 (d + 3) 0 [.ref 24, .int (nI most)] [] (mm_Λ, I, J) mc ms (.inl (some (.int (adA (adS cnt fld fty most t L))))) (mm_Λ, I', J) ∧ (∀ r, r ∉ [14, 15, 16, 24] → I' r = I r) ∧ (∀ i, i ≠ 3 → I' 24 i = I 24 i) ∧ ∀ L', adS cnt fld fty most t L = some L' → HT true cnt fld fty (I' 14) (I' 15) (I' 16) most (trs L') t 0 ∧ I' 24 3 = nI L'.length
  | [], I, hl, hG, hT, hH, h3, hS => by
    refine ⟨I, b95_0 (fun _ => b95_44) (fun z => absurd (by rw [h3]; decide) z), fun _ _ => rfl, fun _ _ => rfl, fun L' e => by simp [adS] at e⟩
  | x :: L, I, hl, hG, hT, hH, h3, hS => by
    rw [List.length_cons] at hl h3
    obtain ⟨g1, g2, g3, g4, g5, g6, g7, g8⟩ := id hG
    obtain ⟨e1, s1, k6, kH⟩ := trs_top hT.tw ht hG hH
    obtain ⟨u1, u2, -⟩ := kH.u hT.tw k6
    rw [cod_hd] at u2
    obtain ⟨I1, r1, hF, hN⟩ := @c96 l X d I J 0 0 cnt fld fty (tyS fld fty t L x.1) x.1 most x.2 hT k6 g3 hm u1 u2 g6
    have hfr : ∀ r, r ∉ [14, 15, 16] → I1 r = I r := fun r hr => by
      simp only [List.mem_cons, List.not_mem_nil, or_false, not_or] at hr
      exact hF.1 r hr.1 hr.2.1 hr.2.2
    have q7 : ∀ {o : mm_O} {σ' : mm_S}, mm_Run l X 95 (d + 3) 26 [.ref 24, .int (nI most)] [.int (nxA (nx fld (tyS fld fty t L x.1) (decide (stp 4 x.1 < most)) (cnt (tyS fld fty t L x.1) - x.2) x.2))] (mm_Λ, I1, J) mc ms o σ' → mm_Run l X 95 (d + 3) 0 [.ref 24, .int (nI most)] [] (mm_Λ, I, J) mc ms o σ' := fun {o σ'} rr => by
      refine b95_0 (fun z => absurd z (by rw [h3]; exact nI_nle (by omega) (by omega))) (fun _ => ?_)
      have q := @b95_7 l X (d + 2) I J (nI most)
      rw [h3, nI_pred, ix_cl (by omega), hS.1] at q
      exact q (ix_in (by omega) (by omega)) r1 rr
    have hput : ∀ c, nxT (nx fld (tyS fld fty t L x.1) (decide (stp 4 x.1 < most)) (cnt (tyS fld fty t L x.1) - x.2) x.2) = hdT c → HT true cnt fld fty (I1 14) (I1 15) (I1 16) most (trs ((x.1, c) :: L)) t 0 := fun c hc => by
      rw [hc] at hN
      exact trs_put hT.tw ht hG hH (fun q hq => ⟨hF.2 14 q hq, hF.2 15 q hq, hF.2 16 q hq⟩) hN
    rcases hnx : nx fld (tyS fld fty t L x.1) (decide (stp 4 x.1 < most)) (cnt (tyS fld fty t L x.1) - x.2) x.2 with _ | c
    · rw [hnx] at q7 hput
      have eA : adS cnt fld fty most t (x :: L) = adS cnt fld fty most t L := by rw [adS, hnx]
      have hH0 := hput 0 rfl
      have e0 : trs ((x.1, 0) :: L) = trs L := trs_new g1 g4 g5
      rw [e0] at hH0
      have k24 : I1 24 3 = nI (L.length + 1) := by rw [hfr 24 (by decide)]; exact h3
      obtain ⟨I', rr, f1, f2, f3⟩ := c95_loop hm ht L (mm_set I1 24 3 (nI L.length)) (by omega) g1
        (hT.of (by rw [mm_set_ne (by decide), hfr 2 (by decide)]) (by rw [mm_set_ne (by decide), hfr 3 (by decide)]) (by rw [mm_set_ne (by decide), hfr 4 (by decide)]))
        (by rw [mm_set_ne (by decide), mm_set_ne (by decide), mm_set_ne (by decide)]; exact hH0) mm_at (by rw [mm_set_ne (by decide), hfr 25 (by decide)]; exact hS.2)
      rw [eA]
      refine ⟨I', q7 (b95_26 (fun _ => b95_31 ?_) (fun z => absurd rfl z)), fun r hr => ?_, fun i hi => ?_, f3⟩
      · rw [k24, nI_pred]
        exact rr
      · rw [f1 r hr]
        simp only [List.mem_cons, List.not_mem_nil, or_false, not_or] at hr
        rw [mm_set_ne hr.2.2.2, hF.1 r hr.1 hr.2.1 hr.2.2.1]
      · rw [f2 i hi, mm_set_eq]
        dsimp only
        rw [if_neg hi, hfr 24 (by decide)]
    · rw [hnx] at q7 hput
      have eA : adS cnt fld fty most t (x :: L) = some ((x.1, c + 1) :: L) := by rw [adS, hnx]
      rw [eA]
      refine ⟨I1, q7 (b95_26 (fun z => absurd z (by show ¬ (1 : Int32) = 0; decide)) (fun _ => b95_29)), fun r hr => ?_, fun i hi => by rw [hfr 24 (by decide)], fun L' hL' => ?_⟩
      · simp only [List.mem_cons, List.not_mem_nil, or_false, not_or] at hr
        exact hF.1 r hr.1 hr.2.1 hr.2.2.1
      · have := Option.some.inj hL'
        subst this
        exact ⟨hput (c + 1) rfl, by rw [hfr 24 (by decide), h3]; rfl⟩
/-- what run keeps, and what it leaves -/
def FC (I I' : Nat → Nat → Int32) (J J' : Nat → Nat → Int64) : Prop := (∀ r, r ∉ [14, 15, 16, 24, 25] → I' r = I r) ∧ ∀ r, r ≠ 24 → J' r = J r
theorem FC.ti (hF : FC I I' J J') (hT : TI cnt fld fty I J) : TI cnt fld fty I' J' := hT.same (fun p hp => hF.1 p (by intro z; simp only [List.mem_cons, List.not_mem_nil, or_false] at hp z; omega)) (fun p hp => hF.2 p (by rintro rfl; simp at hp))
theorem FC.pc (hF : FC I I' J J') (hP : PC n h kd fa fb ly I) : PC n h kd fa fb ly I' := hP.of fun p hp => hF.1 p (by intro z; simp only [List.mem_cons, List.not_mem_nil, or_false] at hp z; omega)
theorem FC.trans {I'' : Nat → Nat → Int32} {J'' : Nat → Nat → Int64} (h : FC I I' J J') (h' : FC I' I'' J' J'') : FC I I'' J J'' := ⟨fun r hr => by rw [h'.1 r hr, h.1 r hr], fun r hr => by rw [h'.2 r hr, h.2 r hr]⟩
theorem FC.i24 {i : Nat} {v : Int32} : FC I (mm_set I 24 i v) J J := ⟨fun r hr => mm_set_ne (by simp only [List.mem_cons, List.not_mem_nil, or_false, not_or] at hr; exact hr.2.2.2.1), fun _ _ => rfl⟩
theorem FC.i25 {i : Nat} {v : Int32} : FC I (mm_set I 25 i v) J J := ⟨fun r hr => mm_set_ne (by simp only [List.mem_cons, List.not_mem_nil, or_false, not_or] at hr; exact hr.2.2.2.2), fun _ _ => rfl⟩
theorem FC.j24 {i : Nat} {v : Int64} : FC I I J (mm_set J 24 i v) := ⟨fun _ _ => rfl, fun r hr => mm_set_ne hr⟩
theorem c91_loop (hw : PW n h kd fa fb ly) (hh : 0 < h) (ht : t < 6) (hm : most ≤ 4) : ∀ (f : Nat) (L : List (Nat × Nat)) (P : Nat) (I : Nat → Nat → Int32) (J : Nat → Nat → Int64), f ≤ 2000 → P ≤ mny → GS cnt fld fty most t L → (∀ y, y ∈ L → 0 < y.2) → L.length ≤ 121 → TI cnt fld fty I J → PC n h kd fa fb ly I → HT true cnt fld fty (I 14) (I 15) (I 16) most (trs L) t 0 → I 24 3 = nI L.length → SKc (I 25) L → I 24 4 = nI (2000 - f) → J 24 5 = lN P →
    ∃ I' J', mm_Run l X 91 (d + 28) 25 [.ref 24, .int (nI t), .int (nI most), .int 1, .null] [] (mm_Λ, I, J) mc ms (.inl (some (.retAddr ((rfS (stE fld fty kd fa fb most t (ly (h - 1))) (stW cnt fld fty most t) (adS cnt fld fty most t) f L P).1 + 1)))) (mm_Λ, I', J') ∧ FC I I' J J' ∧
      I' 24 4 = nI (2000 - (rfS (stE fld fty kd fa fb most t (ly (h - 1))) (stW cnt fld fty most t) (adS cnt fld fty most t) f L P).2.1) ∧ J' 24 5 = lN (rfS (stE fld fty kd fa fb most t (ly (h - 1))) (stW cnt fld fty most t) (adS cnt fld fty most t) f L P).2.2.1 ∧
      ((rfS (stE fld fty kd fa fb most t (ly (h - 1))) (stW cnt fld fty most t) (adS cnt fld fty most t) f L P).1 = 1 → HT true cnt fld fty (I' 14) (I' 15) (I' 16) most (trs (rfS (stE fld fty kd fa fb most t (ly (h - 1))) (stW cnt fld fty most t) (adS cnt fld fty most t) f L P).2.2.2) t 0)
  | 0, L, P, I, J, hf, hP0, hG, hp, hl, hT, hP, hH, h3, hS, h4, h5 => by
    refine ⟨I, J, b91_25 (fun z => absurd z (by decide)) (fun _ => b91_29 (fun _ => b91_153 (fun z => absurd z (by decide)) (fun _ => b91_157 b91_166)) (fun z => absurd (by rw [h4]; decide) z)), ⟨fun _ _ => rfl, fun _ _ => rfl⟩, h4, h5, fun z => absurd z (by show ¬ (2 : Nat) = 1; decide)⟩
  | f + 1, L, P, I, J, hf, hP0, hG, hp, hl, hT, hP, hH, h3, hS, h4, h5 => by
    have hlt : stE fld fty kd fa fb most t (ly (h - 1)) L < 1000 := ev_lt hT.1.tw hw hm ht hH (hw.2.2.2 (h - 1) (by omega))
    have hmn := mny_lt
    have hWm : stW cnt fld fty most t L ≤ mny := Nat.min_le_right _ _
    have r81 := @c81 l X d I J 0 0 cnt fld fty t n h most kd fa fb ly (trs L) hT.1.tw hP hw hh hm ht hH
    -- after counting
    have F1 : FC I (mm_set I 24 4 (nI (2000 - f))) J J := FC.i24
    have pre : ∀ {o : mm_O} {σ' : mm_S}, (stE fld fty kd fa fb most t (ly (h - 1)) L = 1 → mm_Run l X 91 (d + 28) 68 [.ref 24, .int (nI t), .int (nI most), .int 1, .int (cdA (stE fld fty kd fa fb most t (ly (h - 1)) L))] [] (mm_Λ, mm_set I 24 4 (nI (2000 - f)), J) mc ms o σ') →
        (¬ stE fld fty kd fa fb most t (ly (h - 1)) L = 1 → mm_Run l X 91 (d + 28) 90 [.ref 24, .int (nI t), .int (nI most), .int 1, .int (cdA (stE fld fty kd fa fb most t (ly (h - 1)) L))] [] (mm_Λ, mm_set I 24 4 (nI (2000 - f)), J) mc ms o σ') →
        mm_Run l X 91 (d + 28) 25 [.ref 24, .int (nI t), .int (nI most), .int 1, .null] [] (mm_Λ, I, J) mc ms o σ' := fun {o σ'} h1 h2 => by
      refine b91_25 (fun z => absurd z (by decide)) (fun _ => b91_29 (fun z => absurd z (by rw [h4]; exact nI_ge (b := 2000) (by omega) (by omega))) (fun _ => b91_39 r81 ?_))
      have q := @b91_50 l X (d + 27) I J (nI t) (nI most) 1 (cdA (stE fld fty kd fa fb most t (ly (h - 1)) L)) mc ms o σ'
      rw [h4, nI_1, show 2000 - (f + 1) + 1 = 2000 - f by omega] at q
      exact q (fun z => h2 fun w => z ((cdA_1 hlt).mpr w)) (fun z => h1 ((cdA_1 hlt).mp (Decidable.not_not.mp z)))
    have hH1 : HT true cnt fld fty ((mm_set I 24 4 (nI (2000 - f))) 14) ((mm_set I 24 4 (nI (2000 - f))) 15) ((mm_set I 24 4 (nI (2000 - f))) 16) most (trs L) t 0 := by
      rw [mm_set_ne (by decide), mm_set_ne (by decide), mm_set_ne (by decide)]; exact hH
    have k3 : (mm_set I 24 4 (nI (2000 - f))) 24 3 = nI L.length := by rw [mm_set_eq]; exact h3
    have k25 : (mm_set I 24 4 (nI (2000 - f))) 25 = I 25 := mm_set_ne (by decide)
    have r93 := @c93 l X (d + 25 - most) (mm_set I 24 4 (nI (2000 - f))) J 0 0 cnt fld fty t most (trs L) (F1.ti hT) hm ht hH1
    rw [show d + 25 - most + most + 2 = d + 27 by omega] at r93
    -- from the advance on
    have tail : ∀ (x4 : Int32) (L3 : List (Nat × Nat)) (P3 : Nat) (I3 : Nat → Nat → Int32) (J3 : Nat → Nat → Int64), ¬ (stE fld fty kd fa fb most t (ly (h - 1)) L = 0 ∧ 0 < stW cnt fld fty most t L) → L3 = (if stE fld fty kd fa fb most t (ly (h - 1)) L < 2 then L else (stE fld fty kd fa fb most t (ly (h - 1)) L - 2, 0) :: L) → P3 = (if stE fld fty kd fa fb most t (ly (h - 1)) L = 1 then min (P + stW cnt fld fty most t L) mny else P) → L3.length ≤ 121 → GS cnt fld fty most t L3 → FC I I3 J J3 → HT true cnt fld fty (I3 14) (I3 15) (I3 16) most (trs L3) t 0 → I3 24 3 = nI L3.length → SKc (I3 25) L3 → I3 24 4 = nI (2000 - f) → J3 24 5 = lN P3 →
        ∃ I' J', mm_Run l X 91 (d + 28) 144 [.ref 24, .int (nI t), .int (nI most), .int 1, .int x4] [] (mm_Λ, I3, J3) mc ms (.inl (some (.retAddr ((rfS (stE fld fty kd fa fb most t (ly (h - 1))) (stW cnt fld fty most t) (adS cnt fld fty most t) (f + 1) L P).1 + 1)))) (mm_Λ, I', J') ∧ FC I I' J J' ∧
          I' 24 4 = nI (2000 - (rfS (stE fld fty kd fa fb most t (ly (h - 1))) (stW cnt fld fty most t) (adS cnt fld fty most t) (f + 1) L P).2.1) ∧ J' 24 5 = lN (rfS (stE fld fty kd fa fb most t (ly (h - 1))) (stW cnt fld fty most t) (adS cnt fld fty most t) (f + 1) L P).2.2.1 ∧
          ((rfS (stE fld fty kd fa fb most t (ly (h - 1))) (stW cnt fld fty most t) (adS cnt fld fty most t) (f + 1) L P).1 = 1 → HT true cnt fld fty (I' 14) (I' 15) (I' 16) most (trs (rfS (stE fld fty kd fa fb most t (ly (h - 1))) (stW cnt fld fty most t) (adS cnt fld fty most t) (f + 1) L P).2.2.2) t 0) := by
      intro x4 L3 P3 I3 J3 hne eL eP hl3 hG3 F3 hH3 g3 gS g4 g5
      obtain ⟨I4, r4, f1, f2, f3⟩ := @c95_loop l X (d + 24) J3 0 0 cnt fld fty t most hm ht L3 I3 hl3 hG3 (F3.ti hT).1 hH3 g3 gS
      have F4 : FC I3 I4 J3 J3 := ⟨fun r hr => f1 r (by simp only [List.mem_cons, List.not_mem_nil, or_false, not_or] at hr ⊢; exact ⟨hr.1, hr.2.1, hr.2.2.1, hr.2.2.2.1⟩), fun _ _ => rfl⟩
      have k4 : I4 24 4 = nI (2000 - f) := by rw [f2 4 (by decide)]; exact g4
      rcases had : adS cnt fld fty most t L3 with _ | L'
      · rw [had] at r4
        have er := rfS_n (P := P) (f := f) hne (eL ▸ had)
        rw [er]
        refine ⟨I4, J3, b91_144 r4 (b91_149 (b91_25 (fun _ => b91_153 (fun _ => b91_163 b91_166) (fun z => absurd rfl z)) (fun z => absurd rfl z))), F3.trans F4, k4, by rw [← eP]; exact g5, fun z => absurd z (by show ¬ (0 : Nat) = 1; decide)⟩
      · rw [had] at r4
        have er := rfS_s (P := P) (f := f) hne (eL ▸ had)
        obtain ⟨z1, z2, z3⟩ := adS_ok L3 hG3 had
        obtain ⟨y1, y2⟩ := f3 L' had
        have hP3 : P3 ≤ mny := by
          rw [eP]
          split
          · exact Nat.min_le_right _ _
          · exact hP0
        obtain ⟨I', J', rr, F5, c1, c2, c3⟩ := c91_loop hw hh ht hm f L' P3 I4 J3 (by omega) hP3 z1 z2 (by omega) ((F3.trans F4).ti hT) ((F3.trans F4).pc hP) y1 y2 ((SKc.ad L3 gS had).of L' (fun j _ => by rw [f1 25 (by decide)])) k4 g5
        rw [er, ← eP]
        exact ⟨I', J', b91_144 r4 (b91_149 rr), (F3.trans F4).trans F5, c1, c2, c3⟩
    by_cases e1 : stE fld fty kd fa fb most t (ly (h - 1)) L = 1
    · obtain ⟨I', J', rr, c0, c1, c2, c3⟩ := tail (cdA (stE fld fty kd fa fb most t (ly (h - 1)) L)) L (min (P + stW cnt fld fty most t L) mny) (mm_set I 24 4 (nI (2000 - f))) (mm_set J 24 5 (lN (min (P + stW cnt fld fty most t L) mny))) (fun z => by omega) (by rw [if_pos (by omega)]) (by rw [if_pos e1]) hl hG (F1.trans FC.j24) hH1 k3 (by rw [k25]; exact hS) mm_at mm_at
      refine ⟨I', J', pre (fun _ => b91_68 r93 ?_) (fun z => absurd e1 z), c0, c1, c2, c3⟩
      have r29 := @c29 l X (d + 27) (mm_set I 24 4 (nI (2000 - f))) J 0 0 (lN P) (lN (stW cnt fld fty most t L))
      rw [csI_N hP0 hWm] at r29
      rw [h5]
      exact b91_81 r29 (b91_84 rr)
    · by_cases e0 : stE fld fty kd fa fb most t (ly (h - 1)) L = 0
      · have hx4 : cdA (stE fld fty kd fa fb most t (ly (h - 1)) L) = -2 := by rw [e0]; rfl
        by_cases hpos : 0 < stW cnt fld fty most t L
        · have er := rfS_1 (ad := adS cnt fld fty most t) (P := P) (f := f) (L := L) (E := stE fld fty kd fa fb most t (ly (h - 1))) (W := stW cnt fld fty most t) ⟨e0, hpos⟩
          rw [er]
          refine ⟨mm_set I 24 4 (nI (2000 - f)), J, pre (fun z => absurd z e1) (fun _ => b91_90 (fun z => absurd hx4 z) (fun _ => b91_97 r93 (b91_105 (fun z => absurd z fun w => ?_) (fun _ => b91_110)))), F1, mm_at, h5, fun _ => hH1⟩
          exact absurd ((gL_le (b := 0) (by have : stW cnt fld fty most t L ≤ mny := hWm; unfold stW at this; omega) (by omega)).mp ((lgcle _ _).mp w)) (by unfold stW at hpos; omega)
        · obtain ⟨I', J', rr, c0, c1, c2, c3⟩ := tail (cdA (stE fld fty kd fa fb most t (ly (h - 1)) L)) L P (mm_set I 24 4 (nI (2000 - f))) J (fun z => hpos z.2) (by rw [if_pos (by omega)]) (by rw [if_neg e1]) hl hG F1 hH1 k3 (by rw [k25]; exact hS) mm_at h5
          refine ⟨I', J', pre (fun z => absurd z e1) (fun _ => b91_90 (fun z => absurd hx4 z) (fun _ => b91_97 r93 (b91_105 (fun _ => rr) (fun z => absurd ((lgcle _ _).mpr ((gL_le (b := 0) (by have : stW cnt fld fty most t L ≤ mny := hWm; unfold stW at this; omega) (by omega)).mpr (by unfold stW at hpos; omega))) z)))), c0, c1, c2, c3⟩
      · obtain ⟨q, hq⟩ : ∃ q, stE fld fty kd fa fb most t (ly (h - 1)) L = q + 2 := ⟨stE fld fty kd fa fb most t (ly (h - 1)) L - 2, by omega⟩
        have hx4 : cdA (stE fld fty kd fa fb most t (ly (h - 1)) L) = nI q := by rw [hq]; rfl
        obtain ⟨τ', t', hg, h0⟩ := got_ev (r := q) hT.1.tw hw hm ht hH (ly (h - 1) + 1) (ly (h - 1)) (by omega) (hw.2.2.2 (h - 1) (by omega)) hq
        obtain ⟨p1, p2, p3⟩ := GS_push hT.1.tw ht hm hG hp hH hg h0
        obtain ⟨I', J', rr, c0, c1, c2, c3⟩ := tail (nI q) ((q, 0) :: L) P (mm_set (mm_set (mm_set I 24 4 (nI (2000 - f))) 25 L.length (nI q)) 24 3 (nI (L.length + 1))) J (fun z => e0 z.1) (by rw [if_neg (by omega), hq]; rfl) (by rw [if_neg e1]) (by rw [List.length_cons]; omega) p1 (F1.trans (FC.i25.trans FC.i24))
          (by rw [p2, mm_set_ne (by decide), mm_set_ne (by decide), mm_set_ne (by decide), mm_set_ne (by decide), mm_set_ne (by decide), mm_set_ne (by decide)]; exact hH1) mm_at
          ⟨by rw [mm_set_ne (by decide)]; exact mm_at, hS.of L fun j hj => by
            rw [mm_set_ne (by decide), mm_set_eq]
            dsimp only
            rw [if_neg (by omega), k25]⟩ (by simp [mm_set]) h5
        refine ⟨I', J', pre (fun z => absurd z e1) (fun _ => ?_), c0, c1, c2, c3⟩
        rw [hx4]
        refine b91_90 (fun _ => b91_114 (fun z => absurd z (by rw [k3]; exact nI_ge (b := 121) p3 (by omega))) (fun _ => ?_)) (fun z => absurd (nI_ne2 (by omega)) z)
        have q123 := @b91_123 l X (d + 27) (mm_set I 24 4 (nI (2000 - f))) J (nI t) (nI most) 1 (nI q)
        rw [k3, nI_1, ix_cl (by omega)] at q123
        exact q123 (ix_in p3 (by omega)) rr
end REFC
