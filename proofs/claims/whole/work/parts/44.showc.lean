/-! ===== show, in the class ===== -/
section SHOWC
variable {l : Launch} {X : Nat × (Nat → Int32)} {d : Nat} {I I' I'' : Nat → Nat → Int32} {J : Nat → Nat → Int64} {mc ms : Nat} {cnt fld fty : Nat → Nat} {p t c : Nat}
/-- only the value's rows at p and below may differ -/
def FrC (p : Nat) (I I' : Nat → Nat → Int32) : Prop := (∀ r, r ≠ 14 → r ≠ 15 → r ≠ 16 → I' r = I r) ∧ ∀ r q, ¬ bel p q → I' r q = I r q
theorem FrC.refl : FrC p I I := ⟨fun _ _ _ _ => rfl, fun _ _ _ => rfl⟩
theorem FrC.trans (h : FrC p I I') (h' : FrC p I' I'') : FrC p I I'' := ⟨fun r a b c => by rw [h'.1 r a b c, h.1 r a b c], fun r q hq => by rw [h'.2 r q hq, h.2 r q hq]⟩
theorem FrC.TI (h : FrC p I I') (hT : TI cnt fld fty I J) : TI cnt fld fty I' J := hT.same (fun q hq => h.1 q (by rintro rfl; simp at hq) (by rintro rfl; simp at hq) (by rintro rfl; simp at hq)) (fun _ _ => rfl)
theorem c46 (hp : p < 256) : mm_Call l X 46 d [.ref 13, .int (nI p)] (mm_Λ, I, J) mc ms (.inl none) (mm_Λ, mm_set (mm_set I 15 p (-2)) 16 p 0, J) := by
  have r := @b46_0 l X d I J (nI p) mc ms (ix_in hp (by omega)) (ix_in hp (by omega))
  rw [ix_cl (by omega)] at r
  exact r
theorem c44_loop (hf : 4 * t + c < 24) (h3 : fld (4 * t + c) ≤ 3) (hp : p < 256) (hp' : 0 < fld (4 * t + c) → p < 64) : ∀ (n k : Nat) (I : Nat → Nat → Int32), k + n = fld (4 * t + c) → TV I 2 3 4 cnt fld fty → I 16 p = nI (fld (4 * t + c)) →
    ∃ I', mm_Run l X 44 (d + 1) 35 [.ref 13, .int (nI p), .int (nI c), .int (nI (4 * t + c)), .int (nI k), .null] [] (mm_Λ, I, J) mc ms (.inl none) (mm_Λ, I', J) ∧ (∀ r, r ≠ 14 → r ≠ 15 → r ≠ 16 → I' r = I r) ∧ (∀ r q, (∀ j, k ≤ j → j < fld (4 * t + c) → q ≠ 4 * p + j + 1) → I' r q = I r q) ∧
      ∀ j, k ≤ j → j < fld (4 * t + c) → I' 14 (4 * p + j + 1) = nI (fty (3 * (4 * t + c) + j)) ∧ I' 15 (4 * p + j + 1) = -2 ∧ I' 16 (4 * p + j + 1) = 0
  | 0, k, I, hk, hT, h16 => by
    refine ⟨I, b44_35 (ix_in hp (by omega)) (fun _ => b44_91) (fun q => absurd ?_ q), fun _ _ _ _ => rfl, fun _ _ _ => rfl, fun j h1 h2 => by omega⟩
    rw [ix_cl (by omega), h16]
    exact nI_le (by omega) (by omega)
  | n + 1, k, I, hk, hT, h16 => by
    have hp6 := hp' (by omega)
    let K := mm_set (mm_set (mm_set I 14 (4 * p + k + 1) (nI (fty (3 * (4 * t + c) + k)))) 15 (4 * p + k + 1) (-2)) 16 (4 * p + k + 1) 0
    have hK : ∀ r, r ≠ 14 → r ≠ 15 → r ≠ 16 → K r = I r := fun r a b c => by
      show mm_set _ _ _ _ r = _
      rw [mm_set_ne c, mm_set_ne b, mm_set_ne a]
    have hK2 : ∀ r q, q ≠ 4 * p + k + 1 → K r q = I r q := fun r q hq => by simp [K, mm_set, hq]
    obtain ⟨I', r, f1, f2, f3⟩ := c44_loop hf h3 hp hp' n (k + 1) K (by omega) (hT.of (hK 2 (by decide) (by decide) (by decide)) (hK 3 (by decide) (by decide) (by decide)) (hK 4 (by decide) (by decide) (by decide))) (by rw [hK2 16 p (by omega)]; exact h16)
    refine ⟨I', b44_35 (ix_in hp (by omega)) (fun q => absurd q ?_) (fun _ => b44_46 (c45 p k) (b44_52 (fun q => absurd q (nI_ge (a := 4 * p + k + 1) (b := 256) (by omega) (by omega))) (fun _ => b44_62 (c26T hT hf (by omega)) (b44_78 (I1 := K) (J1 := J) (ix_in (by omega) (by omega)) (by rw [ix_cl (by omega)]; exact c46 (by omega)) (b44_85 (by rw [nI_1]; exact r)))))), fun r a b c => by rw [f1 r a b c, hK r a b c], fun r q hq => ?_, fun j h1 h2 => ?_⟩
    · rw [ix_cl (by omega), h16]
      exact nI_ge (by omega) (by omega)
    · rw [f2 r q (fun j a b => hq j (by omega) b), hK2 r q (hq k (Nat.le_refl _) (by omega))]
    · by_cases e : j = k
      · subst e
        rw [f2 14 _ (fun i a b => by omega), f2 15 _ (fun i a b => by omega), f2 16 _ (fun i a b => by omega)]
        simp [K, mm_set]
      · exact f3 j (by omega) h2
/-- place -/
theorem c44 (hT : TV I 2 3 4 cnt fld fty) (ht : t < 6) (hc : c < cnt t) (hp : p < 256) (hp' : 0 < fld (4 * t + c) → p < 64) (h14 : I 14 p = nI t) : ∃ I', mm_Call l X 44 (d + 1) [.ref 13, .int (nI p), .int (nI c)] (mm_Λ, I, J) mc ms (.inl none) (mm_Λ, I', J) ∧ FrC p I I' ∧
      I' 14 p = nI t ∧ I' 15 p = nI c ∧ I' 16 p = nI (fld (4 * t + c)) ∧ ∀ j, j < fld (4 * t + c) → I' 14 (4 * p + j + 1) = nI (fty (3 * (4 * t + c) + j)) ∧ I' 15 (4 * p + j + 1) = -2 ∧ I' 16 (4 * p + j + 1) = 0 := by
  have hf : 4 * t + c < 24 := hT.tw.form ht hc
  have h3 := hT.tw.2.1 _ hf
  let K := mm_set (mm_set I 15 p (nI c)) 16 p (nI (fld (4 * t + c)))
  have hK : ∀ r, r ≠ 14 → r ≠ 15 → r ≠ 16 → K r = I r := fun r a b c => by
    show mm_set _ _ _ _ r = _
    rw [mm_set_ne c, mm_set_ne b]
  obtain ⟨I', r, f1, f2, f3⟩ := @c44_loop l X d J mc ms cnt fld fty p t c hf h3 hp hp' (fld (4 * t + c)) 0 K (by omega) (hT.of (hK 2 (by decide) (by decide) (by decide)) (hK 3 (by decide) (by decide) (by decide)) (hK 4 (by decide) (by decide) (by decide))) (by simp [K, mm_set])
  have hT' : TV (mm_set I 15 p (nI c)) 2 3 4 cnt fld fty := hT.of (mm_set_ne (by decide)) (mm_set_ne (by decide)) (mm_set_ne (by decide))
  refine ⟨I', b44_0 (ix_in hp (by omega)) (by rw [ix_cl (by omega), h14]; exact c21 t c) (b44_10 (ix_in hp (by omega)) (by rw [ix_cl (by omega)]; exact c24T hT' hf) (b44_31 (ix_in hp (by omega)) (by rw [ix_cl (by omega)]; exact r))), ⟨fun r a b c => by rw [f1 r a b c, hK r a b c], fun r q hq => ?_⟩, ?_, ?_, ?_, fun j hj => f3 j (Nat.zero_le _) hj⟩
  · have hqp : q ≠ p := fun e => hq (by rw [e]; exact bel_self p)
    rw [f2 r q (fun j _ b e => hq (by rw [e]; exact bel_kid (by omega) (bel_self _)))]
    simp [K, mm_set, hqp]
  · rw [f2 14 p (fun j _ _ e => by omega)]; simp [K, mm_set, h14]
  · rw [f2 15 p (fun j _ _ e => by omega)]; simp [K, mm_set]
  · rw [f2 16 p (fun j _ _ e => by omega)]; simp [K, mm_set]
theorem c42_pick {e : Nat} {x3 : Int64} (hT : TI cnt fld fty I J) (ht : t < 6) (he : e < 5) {o : mm_O} {σ' : mm_S} : ∀ (n c r : Nat), c + n + 1 = cnt t → r < sm (fun c => DFN cnt fld fty e (4 * t + c)) (n + 1) c → r < mny →
    mm_Run l X 42 (d + 1) 77 [.ref 13, .int (nI p), .int (nI e), .long x3, .null, .int (nI t), .long (lN (pkC (fun c => DFN cnt fld fty e (4 * t + c)) n c r).2), .null, .int (nI (pkC (fun c => DFN cnt fld fty e (4 * t + c)) n c r).1), .null, .null, .null, .null] [] (mm_Λ, I, J) mc ms o σ' →
    mm_Run l X 42 (d + 1) 14 [.ref 13, .int (nI p), .int (nI e), .long x3, .null, .int (nI t), .long (lN r), .null, .int (nI c), .null, .null, .null, .null] [] (mm_Λ, I, J) mc ms o σ'
  | 0, c, r, hc, hr, hm, rr => by
    have h4 := (hT.1.1 t ht).2
    exact b42_14 (c19T hT.1 ht) (b42_25 (fun _ => rr) (fun q => absurd (by rw [nI_m1 (by omega)]; exact nI_le (by omega) (by omega)) q))
  | n + 1, c, r, hc, hr, hm, rr => by
    have h4 := (hT.1.1 t ht).2
    have hf : 4 * t + c < 24 := by omega
    have h43 : ∀ {mc ms : Nat}, mm_Call l X 43 d [.ref 5, .int (nI (4 * t + c)), .int (nI e)] (mm_Λ, I, J) mc ms (.inl (some (.long (lN (DFN cnt fld fty e (4 * t + c)))))) (mm_Λ, I, J) := by
      intro mc ms
      have q := @c43 l X d I J mc ms (4 * t + c) e hf he
      rw [(hT.2.2.1 e t he ht).2 c (by omega), DF_N] at q
      exact q
    have hm62 := mny_lt
    have hle := DFN_le cnt fld fty e (4 * t + c)
    rw [pkC] at rr
    refine b42_14 (c19T hT.1 ht) (b42_25 (fun q => absurd q (by rw [nI_m1 (by omega)]; exact nI_ge (by omega) (by omega))) (fun _ => b42_30 (c21 t c) (b42_43 h43 (b42_47 (fun q => ?_) (fun q => b42_51 (c21 t c) (b42_64 h43 (b42_68 ?_)))))))
    · have hlt : r < DFN cnt fld fty e (4 * t + c) := (gL_lt (by omega) (by omega)).mp ((lgclt _ _).mp q)
      rw [if_pos hlt] at rr
      exact rr
    · have hlt : ¬ r < DFN cnt fld fty e (4 * t + c) := fun z => q ((lgclt _ _).mpr ((gL_lt (by omega) (by omega)).mpr z))
      rw [if_neg hlt] at rr
      rw [lN_sub (by omega), nI_1]
      have hr' : r < DFN cnt fld fty e (4 * t + c) + sm (fun c => DFN cnt fld fty e (4 * t + c)) (n + 1) (c + 1) := hr
      exact c42_pick hT ht he n (c + 1) _ (by omega) (by omega) (by omega) rr
/-- the fields, from k on -/
theorem c42_kids {e h s : Nat} {x3 : Int64} (hf : 4 * t + c < 24) (ht : t < 6) (hc : c < cnt t) (he : e < 4) (hp : p < 64) (hs : s < prd (fN cnt fld fty (e + 1) (4 * t + c)) (fld (4 * t + c)) 0) (hsm : s < mny)
    (hIH : ∀ k t' n' (I : Nat → Nat → Int32), k < fld (4 * t + c) → TI cnt fld fty I J → t' < 6 → n' < DN cnt fld fty (e + 1) t' → I 14 (4 * p + k + 1) = nI t' → ∃ I', mm_Call l X 42 h [.ref 13, .int (nI (4 * p + k + 1)), .int (nI e), .long (lN n')] (mm_Λ, I, J) 0 0 (.inl none) (mm_Λ, I', J) ∧ HT true cnt fld fty (I' 14) (I' 15) (I' 16) e (bld cnt fld fty (e + 1) t' n') t' (4 * p + k + 1) ∧ FrC (4 * p + k + 1) I I') (hh : 1 ≤ h) :
    ∀ (n k : Nat) (I : Nat → Nat → Int32), k + n = fld (4 * t + c) → TI cnt fld fty I J → I 16 p = nI (fld (4 * t + c)) → (∀ j, k ≤ j → j < fld (4 * t + c) → I 14 (4 * p + j + 1) = nI (fty (3 * (4 * t + c) + j))) →
    ∃ I', mm_Run l X 42 (h + 1) 101 [.ref 13, .int (nI p), .int (nI (e + 1)), .long x3, .null, .int (nI t), .long (lN (s % prd (fN cnt fld fty (e + 1) (4 * t + c)) n k)), .null, .int (nI c), .int (nI (4 * t + c)), .int (nI k), .null, .null] [] (mm_Λ, I, J) mc ms (.inl none) (mm_Λ, I', J) ∧
      (∀ r, r ≠ 14 → r ≠ 15 → r ≠ 16 → I' r = I r) ∧ (∀ r q, (∀ j, k ≤ j → j < fld (4 * t + c) → ¬ bel (4 * p + j + 1) q) → I' r q = I r q) ∧
      ∀ j, k ≤ j → j < fld (4 * t + c) → HT true cnt fld fty (I' 14) (I' 15) (I' 16) e (bld cnt fld fty (e + 1) (fty (3 * (4 * t + c) + j)) (dg (fN cnt fld fty (e + 1) (4 * t + c)) (fld (4 * t + c)) s j)) (fty (3 * (4 * t + c) + j)) (4 * p + j + 1)
  | 0, k, I, hk, hT, h16, h14 => by
    have h3 := (hT.1.2.1 _ hf).2
    refine ⟨I, b42_101 (ix_in (by omega) (by omega)) (fun _ => b42_166) (fun q => absurd ?_ q), fun _ _ _ _ => rfl, fun _ _ _ => rfl, fun j h1 h2 => by omega⟩
    rw [ix_cl (by omega), h16]
    exact nI_le (by omega) (by omega)
  | n + 1, k, I, hk, hT, h16, h14 => by
    have h3 := (hT.1.2.1 _ hf).2
    have hm62 := mny_lt
    have ht6 := (hT.1.2.2 _ hf k (by omega)).2
    have hpos : ∀ i, 0 ≤ i → i < 0 + fld (4 * t + c) → 0 < fN cnt fld fty (e + 1) (4 * t + c) i := prd_pos _ _ (by omega)
    have hg := hpos k (by omega) (by omega)
    have hP : 0 < prd (fN cnt fld fty (e + 1) (4 * t + c)) n (k + 1) := prd_of _ _ fun i a b => hpos i (by omega) (by omega)
    have hnk : fld (4 * t + c) - (k + 1) = n := by omega
    have hrest : s % prd (fN cnt fld fty (e + 1) (4 * t + c)) (n + 1) k < mny := Nat.lt_of_le_of_lt (Nat.mod_le _ _) hsm
    have hrP : s % prd (fN cnt fld fty (e + 1) (4 * t + c)) (n + 1) k = s % (fN cnt fld fty (e + 1) (4 * t + c) k * prd (fN cnt fld fty (e + 1) (4 * t + c)) n (k + 1)) := rfl
    have hdiv : s % prd (fN cnt fld fty (e + 1) (4 * t + c)) (n + 1) k / prd (fN cnt fld fty (e + 1) (4 * t + c)) n (k + 1) = dg (fN cnt fld fty (e + 1) (4 * t + c)) (fld (4 * t + c)) s k := by
      rw [hrP, Nat.mod_mul_left_div_self, dg, hnk]
    have hmod : s % prd (fN cnt fld fty (e + 1) (4 * t + c)) (n + 1) k % prd (fN cnt fld fty (e + 1) (4 * t + c)) n (k + 1) = s % prd (fN cnt fld fty (e + 1) (4 * t + c)) n (k + 1) := by
      rw [hrP, Nat.mod_mul_left_mod]
    have hdg : dg (fN cnt fld fty (e + 1) (4 * t + c)) (fld (4 * t + c)) s k < DN cnt fld fty (e + 1) (fty (3 * (4 * t + c) + k)) := Nat.mod_lt _ hg
    have h25 : mm_Call l X 25 h [.ref 5, .int (nI (4 * t + c)), .int (nI k + 1), .int (nI (e + 1))] (mm_Λ, I, J) 0 0 (.inl (some (.long (lN (min (prd (fN cnt fld fty (e + 1) (4 * t + c)) n (k + 1)) mny))))) (mm_Λ, I, J) := by
      rw [nI_1]
      obtain ⟨h', rfl⟩ : ∃ h', h = h' + 1 := ⟨h - 1, by omega⟩
      have q := @c25 l X h' I J 0 0 cnt fld fty hT.1 (4 * t + c) e (k + 1) hf he (by omega)
      rw [hnk, foldF_congr (h := fun j => lN (fN cnt fld fty (e + 1) (4 * t + c) j)) n (k + 1) 1 (fun i a b => by rw [(hT.2.2.1 e _ (by omega) (hT.1.2.2 _ hf i (by omega)).2).1, DT_N]; rfl), lit_1, foldF_N (h := fN cnt fld fty (e + 1) (4 * t + c)) (fun j => ⟨rfl, DN_le _ _ _ _ _⟩) n (k + 1) 1 (by decide), foldFN_eq _ _ _ (by decide), Nat.one_mul] at q
      exact q
    obtain ⟨I1, r1, hH, hF⟩ := hIH k _ _ I (by omega) hT ht6 hdg (h14 k (Nat.le_refl _) (by omega))
    obtain ⟨I', r, f1, f2, f3⟩ := c42_kids hf ht hc he hp hs hsm hIH hh n (k + 1) I1 (by omega) (hF.TI hT) (by rw [hF.2 16 p bel_up]; exact h16) (fun j a b => by rw [hF.2 14 _ (fun q => bel_dis (by omega) (by omega) (show k ≠ j by omega) q (bel_self _))]; exact h14 j (by omega) b)
    have hmin : min (prd (fN cnt fld fty (e + 1) (4 * t + c)) n (k + 1)) mny < 2 ^ 62 := by have := Nat.min_le_right (prd (fN cnt fld fty (e + 1) (4 * t + c)) n (k + 1)) mny; omega
    have hmp : 0 < min (prd (fN cnt fld fty (e + 1) (4 * t + c)) n (k + 1)) mny := Nat.lt_min.mpr ⟨hP, by decide⟩
    have hn0 : ¬ lN (min (prd (fN cnt fld fty (e + 1) (4 * t + c)) n (k + 1)) mny) = 0 := fun q => absurd ((gL_eq hmin (by omega)).mp (q.trans lit_0)) (by omega)
    refine ⟨I', b42_101 (ix_in (by omega) (by omega)) (fun q => absurd q ?_) (fun _ => b42_112 h25 (b42_126 (fun q => absurd ((lgcle _ _).mp q) ?_) (fun _ => b42_135 (c45 p k) (b42_142 (I1 := I1) (J1 := J) hn0 ?_ (b42_153 hn0 (b42_160 ?_)))))), fun r a b c => by rw [f1 r a b c, hF.1 r a b c], fun r q hq => ?_, fun j h1 h2 => ?_⟩
    · rw [ix_cl (by omega), h16]
      exact nI_ge (by omega) (by omega)
    · exact fun z => absurd ((gL_le hmin (by omega)).mp (show lN _ ≤ lN 0 from z)) (by omega)
    · rw [nI_pred, gL_div (by omega) hmin, cap_div hrest, hdiv]
      exact r1
    · rw [gL_mod (by omega) hmin, cap_mod hrest, hmod, nI_1]
      exact r
    · rw [f2 r q (fun j a b => hq j (by omega) b), hF.2 r q (hq k (Nat.le_refl _) (by omega))]
    · by_cases e1 : j = k
      · subst e1
        refine hH.frame hT.1.tw ht6 fun q hq => ?_
        have hx : ∀ r, I' r q = I1 r q := fun r => f2 r q fun i a b z => bel_dis (by omega) (by omega) (show j ≠ i by omega) hq z
        exact ⟨hx 14, hx 15, hx 16⟩
      · exact f3 j (by omega) h2
/-- fillIn -/
theorem c42 : ∀ (e h p t n : Nat) (I : Nat → Nat → Int32), h + e ≤ 4 → p < 4 ^ h → t < 6 → n < DN cnt fld fty (e + 1) t → TI cnt fld fty I J → I 14 p = nI t →
    ∃ I', mm_Call l X 42 (d + e + 2) [.ref 13, .int (nI p), .int (nI e), .long (lN n)] (mm_Λ, I, J) mc ms (.inl none) (mm_Λ, I', J) ∧ HT true cnt fld fty (I' 14) (I' 15) (I' 16) e (bld cnt fld fty (e + 1) t n) t p ∧ FrC p I I' := by
  intro e
  induction e generalizing mc ms with
  | zero =>
    intro h p t n I he hp ht hn hT h14
    have hp256 : p < 256 := Nat.lt_of_lt_of_le hp (Nat.pow_le_pow_right (n := 4) (by decide) (show h ≤ 4 by omega))
    obtain ⟨k1, k2, k3⟩ := pkT_ok cnt fld fty hn
    have hf := hT.1.tw.form ht k1
    have hnm := DN_le cnt fld fty (0 + 1) t
    have h0 : fld (4 * t + (pkT cnt fld fty 0 t n).1) = 0 := by
      apply Nat.eq_zero_of_not_pos
      intro q
      rw [DFN_prd] at k2
      have := prd_pos (g := fN cnt fld fty 0 (4 * t + (pkT cnt fld fty 0 t n).1)) (fld (4 * t + (pkT cnt fld fty 0 t n).1)) 0 (by omega) 0 (by omega) (by omega)
      exact absurd this (by unfold fN; simp [DN])
    have hsm : n < sm (fun c => DFN cnt fld fty 0 (4 * t + c)) (cnt t - 1 + 1) 0 := by
      rw [DN_succ] at hn
      have h1 := foldCN_le_sm (g := fun c => DFN cnt fld fty 0 (4 * t + c)) (cnt t) 0 0
      rw [Nat.sub_add_cancel (by omega)]; omega
    obtain ⟨I', r, hF, a1, a2, a3, -⟩ := @c44 l X d I J 0 0 cnt fld fty p t (pkT cnt fld fty 0 t n).1 hT.1 ht k1 hp256 (fun q => absurd q (by omega)) h14
    refine ⟨I', ?_, ⟨⟨a1, fun q => absurd q (by rw [bld_nil]; omega), fun c hc => ?_⟩, fun c hc => ?_⟩, hF⟩
    · refine b42_0 (ix_in hp256 (by omega)) ?_
      rw [ix_cl (by omega), h14, ← nI_0]
      exact c42_pick hT ht (by omega) (cnt t - 1) 0 n (by omega) hsm (by omega) (b42_77 r (b42_84 (fun q => absurd nI_0.symm q) (fun _ => b42_88)))
    · rw [bld_nil] at hc
      have : (pkT cnt fld fty 0 t n).1 = c := by omega
      subst this
      exact ⟨k1, a2, fun _ => a3⟩
    · rw [bld_nil] at hc
      have : (pkT cnt fld fty 0 t n).1 = c := by omega
      subst this
      exact h0
  | succ e ih =>
    intro h p t n I he hp ht hn hT h14
    have hp64 : p < 64 := Nat.lt_of_lt_of_le hp (Nat.pow_le_pow_right (n := 4) (by decide) (show h ≤ 3 by omega))
    obtain ⟨k1, k2, k3⟩ := pkT_ok cnt fld fty hn
    have hf := hT.1.tw.form ht k1
    have hnm := DN_le cnt fld fty (e + 1 + 1) t
    have hsm : n < sm (fun c => DFN cnt fld fty (e + 1) (4 * t + c)) (cnt t - 1 + 1) 0 := by
      rw [DN_succ] at hn
      have h1 := foldCN_le_sm (g := fun c => DFN cnt fld fty (e + 1) (4 * t + c)) (cnt t) 0 0
      rw [Nat.sub_add_cancel (by omega)]; omega
    obtain ⟨I1, r, hF, a1, a2, a3, a4⟩ := @c44 l X (d + e + 1) I J 0 0 cnt fld fty p t (pkT cnt fld fty (e + 1) t n).1 hT.1 ht k1 (by omega) (fun _ => hp64) h14
    have hs : (pkT cnt fld fty (e + 1) t n).2 < prd (fN cnt fld fty (e + 1) (4 * t + (pkT cnt fld fty (e + 1) t n).1)) (fld (4 * t + (pkT cnt fld fty (e + 1) t n).1)) 0 := by
      rw [DFN_prd] at k2
      omega
    obtain ⟨I', r2, f1, f2, f3⟩ := @c42_kids l X J mc ms cnt fld fty p t (pkT cnt fld fty (e + 1) t n).1 e (d + e + 2) (pkT cnt fld fty (e + 1) t n).2 (lN n) hf ht k1 (by omega) hp64 hs (by omega)
      (fun k t' n' I hk hT ht' hn' h14' => ih (h + 1) (4 * p + k + 1) t' n' I (by omega) (by have := hT.1.tw.2.1 _ hf; rw [Nat.pow_succ]; omega) ht' hn' hT h14') (by omega) (fld (4 * t + (pkT cnt fld fty (e + 1) t n).1)) 0 I1 (by omega) (hF.TI hT) a3 (fun j _ hj => (a4 j hj).1)
    rw [Nat.mod_eq_of_lt hs, nI_0] at r2
    have h3 := hT.1.tw.2.1 _ hf
    have hup : ∀ r, I' r p = I1 r p := fun r => f2 r p fun j _ _ => bel_up
    refine ⟨I', ?_, ⟨⟨by rw [hup]; exact a1, fun q => absurd q (by rw [bld_nil]; omega), fun c hc => ?_⟩, fun c hc k hk => ?_⟩, ⟨fun r a b c => by rw [f1 r a b c, hF.1 r a b c], fun r q hq => ?_⟩⟩
    · refine b42_0 (ix_in (by omega) (by omega)) ?_
      rw [ix_cl (by omega), h14, ← nI_0]
      refine c42_pick hT ht (by omega) (cnt t - 1) 0 n (by omega) hsm (by omega) (b42_77 r (b42_84 (fun _ => b42_89 (c21 t _) (b42_96 ?_)) (fun q => absurd (fun z => absurd ((nI_eq (b := 0) (by omega) (by omega)).mp z) (by omega)) q)))
      exact r2
    · rw [bld_nil] at hc
      have : (pkT cnt fld fty (e + 1) t n).1 = c := by omega
      subst this
      exact ⟨k1, by rw [hup]; exact a2, fun _ => by rw [hup]; exact a3⟩
    · rw [bld_nil] at hc
      have : (pkT cnt fld fty (e + 1) t n).1 = c := by omega
      subst this
      rw [bld_kid]
      exact f3 k (Nat.zero_le _) hk
    · rw [f2 r q (fun j _ hj z => hq (bel_kid (by omega) z)), hF.2 r q hq]
/-- become -/
theorem c41 {e n : Nat} (he : e < 5) (ht : t < 6) (hn : n < DN cnt fld fty (e + 1) t) (hT : TI cnt fld fty I J) :
    ∃ I', mm_Call l X 41 (d + e + 3) [.ref 13, .int (nI t), .int (nI e), .long (lN n)] (mm_Λ, I, J) mc ms (.inl none) (mm_Λ, I', J) ∧ HT true cnt fld fty (I' 14) (I' 15) (I' 16) e (bld cnt fld fty (e + 1) t n) t 0 ∧ ∀ r, r ≠ 14 → r ≠ 15 → r ≠ 16 → I' r = I r := by
  have hT' : TI cnt fld fty (mm_set I 14 0 (nI t)) J := hT.same (fun q hq => mm_set_ne (by rintro rfl; simp at hq)) (fun _ _ => rfl)
  obtain ⟨I', r, hH, hF⟩ := @c42 l X d J 0 0 cnt fld fty e 0 0 t n (mm_set I 14 0 (nI t)) (by omega) (by decide) ht hn hT' (by simp [mm_set])
  rw [nI_0] at r
  exact ⟨I', b41_0 r b41_14, hH, fun q a b c => by rw [hF.1 q a b c, mm_set_ne a]⟩
end SHOWC
