section EVALM
variable {l : Launch} {X : Nat × (Nat → Int32)} {d : Nat} {I I' : Nat → Nat → Int32} {J J' : Nat → Nat → Int64} {mc ms : Nat} {cnt fld fty : Nat → Nat} {t n h m : Nat} {kd fa fb ly : Nat → Nat} {τ : TR}
theorem PM.of (hP : PM n h kd fa fb ly I) (h1 : I' 26 14 = I 26 14) (h2 : I' 26 19 = I 26 19) (h3 : I' 38 = I 38) (h4 : I' 39 = I 39) (h5 : I' 40 = I 40) (h6 : I' 42 = I 42) : PM n h kd fa fb ly I' := by
  unfold PM
  rw [h1, h2, h3, h4, h5, h6]
  exact hP
theorem SF.w41 {i : Nat} {x : Int32} : SF [41] [] 0 I (mm_set I 41 i x) J J :=
  ⟨fun _ hi => by omega, fun r hr => mm_set_ne (by simp only [List.mem_cons, List.not_mem_nil, or_false, not_or] at hr; exact hr.2.2.2), fun i _ => by simp [mm_set], fun _ _ => rfl⟩
theorem v133_step {i top : Nat} (hT : TV I 27 28 29 cnt fld fty) (hP : PM n h kd fa fb ly I) (hw : PW n h kd fa fb ly) (hm : m ≤ 4) (ht : t < 6) (hH : HT false cnt fld fty (I 33) (I 32) (I 32) m τ t 0) (hi : i < n) (hit : i ≤ top) (htop : top < 20) (hE : ∀ j, j < i → I 41 j = nI (evE (tvF fld fty τ t) (svF fld fty m τ t) kd fa fb j)) :
    ∃ I' J', (∀ {mc ms : Nat} {o : mm_O} {σ' : mm_S}, mm_Run l X 133 (d + 4) 14 [.ref 26, .int (nI top), .int (nI (i + 1)), .null, .null] [] (mm_Λ, I', J') mc ms o σ' → mm_Run l X 133 (d + 4) 14 [.ref 26, .int (nI top), .int (nI i), .null, .null] [] (mm_Λ, I, J) mc ms o σ') ∧ (∀ j, j < i + 1 → I' 41 j = nI (evE (tvF fld fty τ t) (svF fld fty m τ t) kd fa fb j)) ∧ SF [41] [] 0 I I' J J' := by
  have hn := hw.1
  obtain ⟨w1, w2, w3, w4⟩ := hw.2.2.1 i hi
  obtain ⟨p1, p2, p3⟩ := hP.2.2.1 i hi
  have hi20 := ix_in (n := i) (N := 20) (by omega) (by omega)
  have ecl : (nI i).toNatClampNeg = i := ix_cl (by omega)
  have fin : ∀ (I1 : Nat → Nat → Int32) (v : Nat), v = evE (tvF fld fty τ t) (svF fld fty m τ t) kd fa fb i → (∀ j, I1 41 j = I 41 j) → ∀ j, j < i + 1 → (mm_set I1 41 i (nI v)) 41 j = nI (evE (tvF fld fty τ t) (svF fld fty m τ t) kd fa fb j) := by
    intro I1 v hv h41 j hj
    by_cases e : j = i
    · subst e
      rw [← hv]; simp [mm_set]
    · have : (mm_set I1 41 i (nI v)) 41 j = I1 41 j := by simp [mm_set, e]
      rw [this, h41]; exact hE j (by omega)
  by_cases hk2 : kd i < 3
  · obtain ⟨v1, v2⟩ := w2 hk2
    have g1 := ev_lt (i := fa i) hT.tw hw hm ht hH (by omega)
    have g2 := ev_lt (i := fb i) hT.tw hw hm ht hH (by omega)
    have e1 := hE (fa i) v1
    have e2 := hE (fb i) v2
    have k38 : (2 : Int32) ≤ nI ((kd i + 2) % 5) := nI_le (a := 2) (by omega) (by omega)
    -- up to pc 70 with x and y
    have pre : ∀ {mc ms : Nat} {o : mm_O} {σ' : mm_S}, mm_Run l X 133 (d + 4) 70 [.ref 26, .int (nI top), .int (nI i), .int (nI (evE (tvF fld fty τ t) (svF fld fty m τ t) kd fa fb (fa i))), .null] [.int (nI (evE (tvF fld fty τ t) (svF fld fty m τ t) kd fa fb (fb i)))] (mm_Λ, I, J) mc ms o σ' → mm_Run l X 133 (d + 4) 14 [.ref 26, .int (nI top), .int (nI i), .null, .null] [] (mm_Λ, I, J) mc ms o σ' := by
      intro mc ms o σ' rr
      refine b133_14 (fun z => absurd z (nI_nlt hit (by omega))) (fun _ => b133_19 hi20 (fun _ => ?_) (fun z => absurd (by rw [ecl, p1]; exact k38) z))
      have q33 := @b133_33 l X (d + 3) I J (nI top) (nI i) mc ms o σ'
      rw [ecl, p2, ix_cl (by omega), e1] at q33
      refine q33 hi20 (ix_in (by omega) (by omega)) (b133_44 hi20 (fun _ => ?_) (fun z => absurd (by rw [ecl, p1]; exact k38) z))
      have q59 := @b133_59 l X (d + 3) I J (nI top) (nI i) (nI (evE (tvF fld fty τ t) (svF fld fty m τ t) kd fa fb (fa i))) mc ms o σ'
      rw [ecl, p3, ix_cl (by omega), e2] at q59
      exact q59 hi20 (ix_in (by omega) (by omega)) rr
    have hne : ∀ u : Nat, u < 5 → ¬ (kd i + 2) % 5 = u → ¬ I 38 (nI i).toNatClampNeg = nI u := fun u hu z w => by
      rw [ecl, p1] at w
      exact z ((nI_eq (by omega) (by omega)).mp w)
    have heq : ∀ u : Nat, (kd i + 2) % 5 = u → I 38 (nI i).toNatClampNeg = nI u := fun u z => by rw [ecl, p1, z]
    have ee := evE_eq (tv := tvF fld fty τ t) (sv := svF fld fty m τ t) hw hi
    rw [if_neg (by omega), if_neg (by omega)] at ee
    refine ⟨mm_set I 41 i (nI (evE (tvF fld fty τ t) (svF fld fty m τ t) kd fa fb i)), J, fun rr => pre (b133_70 hi20 (fun _ => b133_106 hi20 (fun _ => b133_141 hi20 (fun z2 => b133_171 hi20 (fun z3 => ?_) (fun z3 => ?_)) (fun z2 => ?_)) (fun z => absurd (hne 1 (by omega) (by omega)) z)) (fun z => absurd (hne 0 (by omega) (by omega)) z)), fin I _ rfl (fun _ => rfl), SF.w41⟩
    · -- NOT
      have e2' : kd i = 2 := by
        have a : ¬ kd i = 0 := fun w => z2 (heq 2 (by omega))
        have b : ¬ kd i = 1 := fun w => z3 (heq 3 (by omega))
        omega
      rw [if_pos e2'] at ee
      refine b133_200 (fun z => ?_) (fun z => ?_)
      · have hx : ¬ evE (tvF fld fty τ t) (svF fld fty m τ t) kd fa fb (fa i) < 2 := fun w => nI_ge (a := evE (tvF fld fty τ t) (svF fld fty m τ t) kd fa fb (fa i)) (b := 2) w (by omega) z
        rw [if_neg hx] at ee
        refine b133_216 (b133_217 hi20 (b133_218 ?_))
        rw [ecl, nI_1, ← ee]
        exact rr
      · have hx : evE (tvF fld fty τ t) (svF fld fty m τ t) kd fa fb (fa i) < 2 := Nat.lt_of_not_le fun w => z (nI_le (a := 2) w (by omega))
        rw [if_pos hx] at ee
        refine b133_210 (b133_217 hi20 (b133_218 ?_))
        rw [ecl, nI_1, show (1 : Int32) = nI 1 from rfl, nI_sub (by omega), ← ee]
        exact rr
    · -- OR
      have e1' : kd i = 1 := by
        have a := Decidable.not_not.mp z3
        rw [ecl, p1] at a
        have := (nI_eq (b := 3) (by omega) (by omega)).mp a
        omega
      rw [if_neg (by omega), if_pos e1'] at ee
      refine b133_181 (fun z => ?_) (fun z => ?_)
      · rw [if_neg (fun w => z (by rw [w]; rfl))] at ee
        refine b133_195 (b133_196 hi20 (b133_218 ?_))
        rw [ecl, nI_1, ← ee]
        exact rr
      · rw [if_pos ((nI_eq (b := 0) (by omega) (by omega)).mp (Decidable.not_not.mp z))] at ee
        refine b133_190 (b133_196 hi20 (b133_218 ?_))
        rw [ecl, nI_1, ← ee]
        exact rr
    · -- AND
      have e0' : kd i = 0 := by
        have a := Decidable.not_not.mp z2
        rw [ecl, p1] at a
        have := (nI_eq (b := 2) (by omega) (by omega)).mp a
        omega
      rw [if_neg (by omega), if_neg (by omega)] at ee
      refine b133_151 (fun z => ?_) (fun z => ?_)
      · rw [if_neg (fun w => z (by rw [w]; rfl))] at ee
        refine b133_166 (b133_167 hi20 (b133_218 ?_))
        rw [ecl, nI_1, ← ee]
        exact rr
      · rw [if_pos ((nI_eq (b := 1) (by omega) (by omega)).mp (Decidable.not_not.mp z))] at ee
        refine b133_161 (b133_167 hi20 (b133_218 ?_))
        rw [ecl, nI_1, ← ee]
        exact rr
  · have k38 : ¬ (2 : Int32) ≤ nI ((kd i + 2) % 5) := nI_ge (b := 2) (by omega) (by omega)
    have pre : ∀ {mc ms : Nat} {o : mm_O} {σ' : mm_S}, mm_Run l X 133 (d + 4) 70 [.ref 26, .int (nI top), .int (nI i), .int 0, .null] [.int 0] (mm_Λ, I, J) mc ms o σ' → mm_Run l X 133 (d + 4) 14 [.ref 26, .int (nI top), .int (nI i), .null, .null] [] (mm_Λ, I, J) mc ms o σ' := by
      intro mc ms o σ' rr
      exact b133_14 (fun z => absurd z (nI_nlt hit (by omega))) (fun _ => b133_19 hi20 (fun z => absurd z (by rw [ecl, p1]; exact k38)) (fun _ => b133_29 (b133_44 hi20 (fun z => absurd z (by rw [ecl, p1]; exact k38)) (fun _ => b133_55 rr))))
    have ee := evE_eq (tv := tvF fld fty τ t) (sv := svF fld fty m τ t) hw hi
    by_cases e3 : kd i = 3
    · obtain ⟨v1, v2⟩ := w3 e3
      rw [if_pos e3] at ee
      have r := @c134 l X d I J 0 0 cnt fld fty (fa i) t (fb i) m τ hT v1 v2 ht hH
      refine ⟨mm_set I 41 i (nI (evE (tvF fld fty τ t) (svF fld fty m τ t) kd fa fb i)), J, fun rr => pre (b133_70 hi20 (fun z => absurd (by rw [ecl, p1, e3]; rfl) z) (fun _ => b133_81 (I1 := I) (J1 := J) (r := nI (tvl fld fty τ t (fa i) (fb i))) hi20 hi20 ?_ (b133_102 hi20 (b133_218 ?_)))), fin I _ rfl (fun _ => rfl), SF.w41⟩
      · rw [ecl, p2, p3]; exact r
      · rw [ecl, nI_1]
        rw [ee] at rr
        exact rr
    · have e4 : kd i = 4 := by omega
      obtain ⟨v1, v2⟩ := w4 e4
      rw [if_neg e3, if_pos e4] at ee
      obtain ⟨I1, J1, r, hS⟩ := @c137 l X d I J 0 0 cnt fld fty (fa i) (fb i) t m τ hT v1 v2 hm ht hH
      refine ⟨mm_set I1 41 i (nI (evE (tvF fld fty τ t) (svF fld fty m τ t) kd fa fb i)), J1, fun rr => pre (b133_70 hi20 (fun _ => b133_106 hi20 (fun z => absurd (by rw [ecl, p1, e4]; rfl) z) (fun _ => b133_116 (I1 := I1) (J1 := J1) (r := nI (svl fld fty m τ t (fa i) (fb i))) hi20 hi20 ?_ (b133_137 hi20 (b133_218 ?_)))) (fun z => absurd (by rw [ecl, p1, e4]; decide) z)), fin I1 _ rfl (fun j => by rw [hS.2.1 41 (by decide)]), (hS.mono (fun r hr => by simp at hr) (fun r hr => hr)).trans SF.w41 (Nat.le_refl _)⟩
      · rw [ecl, p2, p3]; exact r
      · rw [ecl, nI_1]
        rw [ee] at rr
        exact rr
theorem c133_loop {top : Nat} (hw : PW n h kd fa fb ly) (hm : m ≤ 4) (ht : t < 6) (htop : top < n) : ∀ (r i : Nat) (I : Nat → Nat → Int32) (J : Nat → Nat → Int64), i + r = top + 1 → TV I 27 28 29 cnt fld fty → PM n h kd fa fb ly I → HT false cnt fld fty (I 33) (I 32) (I 32) m τ t 0 → (∀ j, j < i → I 41 j = nI (evE (tvF fld fty τ t) (svF fld fty m τ t) kd fa fb j)) →
    ∃ I' J', mm_Run l X 133 (d + 4) 14 [.ref 26, .int (nI top), .int (nI i), .null, .null] [] (mm_Λ, I, J) mc ms (.inl (some (.int (nI (evE (tvF fld fty τ t) (svF fld fty m τ t) kd fa fb top))))) (mm_Λ, I', J') ∧ SF [41] [] 0 I I' J J'
  | 0, i, I, J, hr, hT, hP, hH, hE => by
    have hn := hw.1
    refine ⟨I, J, b133_14 (fun _ => ?_) (fun z => absurd (nI_lt (by omega) (by omega)) z), SF.refl⟩
    have q := @b133_224 l X (d + 3) I J (nI top) (nI i) mc ms (ix_in (by omega) (by omega))
    rw [ix_cl (by omega), hE top (by omega)] at q
    exact q
  | r + 1, i, I, J, hr, hT, hP, hH, hE => by
    have hn := hw.1
    obtain ⟨I1, J1, st, e1, s1⟩ := @v133_step l X d I J cnt fld fty t n h m kd fa fb ly τ i top hT hP hw hm ht hH (by omega) (by omega) (by omega) hE
    obtain ⟨I', J', rr, s2⟩ := c133_loop hw hm ht htop r (i + 1) I1 J1 (by omega) (hT.of (s1.2.1 27 (by decide)) (s1.2.1 28 (by decide)) (s1.2.1 29 (by decide))) (hP.of (s1.2.2.1 14 (by decide)) (s1.2.2.1 19 (by decide)) (s1.2.1 38 (by decide)) (s1.2.1 39 (by decide)) (s1.2.1 40 (by decide)) (s1.2.1 42 (by decide))) (by rw [s1.2.1 33 (by decide), s1.2.1 32 (by decide)]; exact hH) e1
    exact ⟨I', J', st rr, s1.trans s2 (Nat.le_refl _)⟩
/-- evaluate of the reference -/
theorem c133 (hT : TV I 27 28 29 cnt fld fty) (hP : PM n h kd fa fb ly I) (hw : PW n h kd fa fb ly) (hh : 0 < h) (hm : m ≤ 4) (ht : t < 6) (hH : HT false cnt fld fty (I 33) (I 32) (I 32) m τ t 0) :
    ∃ I' J', mm_Call l X 133 (d + 4) [.ref 26] (mm_Λ, I, J) mc ms (.inl (some (.int (nI (evE (tvF fld fty τ t) (svF fld fty m τ t) kd fa fb (ly (h - 1))))))) (mm_Λ, I', J') ∧ SF [41] [] 0 I I' J J' := by
  have h1 := hw.1
  have h2 := hw.2.1
  have h3 := hw.2.2.2 (h - 1) (by omega)
  obtain ⟨I', J', rr, s⟩ := @c133_loop l X d mc ms cnt fld fty t n h m kd fa fb ly τ (ly (h - 1)) hw hm ht h3 (ly (h - 1) + 1) 0 I J (by omega) hT hP hH (fun j hj => by omega)
  rw [nI_0] at rr
  refine ⟨I', J', b133_0 ?_ ?_, s⟩
  · rw [hP.2.1, nI_m1 (by omega)]; exact ix_in (by omega) (by omega)
  · rw [hP.2.1, nI_m1 (by omega), ix_cl (by omega), hP.2.2.2 _ (by omega)]
    exact rr
end EVALM
