/-! ===== show, in the reference ===== -/
section SHOWM
variable {l : Launch} {X : Nat × (Nat → Int32)} {d : Nat} {I I' I'' : Nat → Nat → Int32} {J J' J'' : Nat → Nat → Int64} {mc ms : Nat} {cnt fld fty : Nat → Nat} {p t c n s : Nat} {τ : TR} {L : List Int32}
theorem v122_push {x2 : Int32} : ∀ (kk s : Nat) (I : Nat → Nat → Int32) (J : Nat → Nat → Int64), I 26 10 = nI s → s + kk ≤ 512 →
    ∃ I' J', (∀ {mc ms : Nat} {o : mm_O} {σ' : mm_S}, mm_Run l X 122 (d + 1) 17 [.ref 26, .null, .null, .null] [] (mm_Λ, I', J') mc ms o σ' → mm_Run l X 122 (d + 1) 107 [.ref 26, .int (nI p), .int x2, .int (kx kk)] [] (mm_Λ, I, J) mc ms o σ') ∧ I' 26 10 = nI (s + kk) ∧ (∀ j, j < kk → I' 35 (s + (kk - 1 - j)) = nI (4 * p + j + 1)) ∧ SF [] [] s I I' J J'
  | 0, s, I, J, h10, hs => ⟨I, J, fun rr => b122_107 (fun _ => b122_130 rr) (fun q => absurd (by decide) q), h10, fun j hj => by omega, SF.refl⟩
  | kk + 1, s, I, J, h10, hs => by
    obtain ⟨I', J', st, g1, g2, g3⟩ := v122_push (x2 := x2) kk (s + 1) (mm_set (mm_set (mm_set I 35 s (nI (4 * p + kk + 1))) 36 s 0) 26 10 (nI (s + 1))) (mm_set J 37 s 0) (by simp [mm_set]) (by omega)
    refine ⟨I', J', fun rr => b122_107 (fun q => absurd q (nI_pos (by omega))) (fun _ => b122_111 (I1 := mm_set (mm_set (mm_set I 35 s (nI (4 * p + kk + 1))) 36 s 0) 26 10 (nI (s + 1))) (J1 := mm_set J 37 s 0) ?_ (b122_124 ?_)), by rw [g1]; congr 1; omega, fun j hj => ?_, SF.push.trans g3 (by omega)⟩
    · show mm_Call l X 119 d [.ref 26, .int (4 * nI p + nI kk + 1), .int 0, .long 0] _ 0 0 _ _
      rw [jx4, nI_1]
      exact c119 (by omega) h10
    · show mm_Run l X 122 (d + 1) 107 [.ref 26, .int (nI p), .int x2, .int (nI kk + (-1))] [] _ _ _ _ _
      rw [kx_dec]
      exact st rr
    · by_cases e : j = kk
      · subst e
        rw [show s + (j + 1 - 1 - j) = s by omega, (g3.1 s (by omega)).1]
        simp [mm_set]
      · rw [show s + (kk + 1 - 1 - j) = s + 1 + (kk - 1 - j) by omega]
        exact g2 j (by omega)
theorem v122_head (hT : TV I 27 28 29 cnt fld fty) (hH : HT false cnt fld fty (I 33) (I 32) (I 32) n τ t p) (ht : t < 6) (hp : p < 256) (h10 : I 26 10 = nI (s + 1)) (hs : s < 512) (h35 : I 35 s = nI p) (hR : RW (I 26 8) (I 34) L) (hL : L.length < 256) {o : mm_O} {σ' : mm_S}
    (rr : mm_Run l X 122 (d + 1) 107 [.ref 26, .int (nI p), .int (nI (fl fld τ t)), .int (kx (fl fld τ t))] [] (mm_Λ, mm_set (mm_set (mm_set I 26 10 (nI s)) 34 L.length (cod τ)) 26 8 (nI (L.length + 1)), J) mc ms o σ') :
    mm_Run l X 122 (d + 1) 17 [.ref 26, .null, .null, .null] [] (mm_Λ, I, J) mc ms o σ' := by
  obtain ⟨h1, h2, -, h4, -⟩ := hH.u hT.tw ht
  have q := @b122_24 l X d I J mc ms o σ'
  rw [h10, nI_pred, ix_cl (by omega), h35, ix_cl (by omega), hR.1, ix_cl (by omega), h2, nI_1] at q
  refine b122_17 (fun z => absurd z (by rw [h10]; exact nI_nle (by omega) (by omega))) (fun _ => q (ix_in hs (by omega)) (ix_in hp (by omega)) (ix_in hL (by omega)) (ix_in hp (by omega)) (fun z => ?_) (fun z => ?_))
  · rcases hτ : τ [] with _ | c
    · rw [cod, hτ] at z
      exact absurd z (by decide)
    · obtain ⟨hc, -, -⟩ := hH.hd.2.2 c hτ
      have hf := hT.tw.form ht hc
      have ec : cod τ = nI c := by rw [cod, hτ]
      have ef : fl fld τ t = fld (4 * t + c) := by rw [fl, hτ]
      generalize hK : mm_set (mm_set (mm_set I 26 10 (nI s)) 34 L.length (cod τ)) 26 8 (nI (L.length + 1)) = K at rr ⊢
      have k33 : K 33 p = nI t := by rw [← hK, mm_set_ne (by decide), mm_set_ne (by decide), mm_set_ne (by decide)]; exact h1
      have k32 : K 32 p = nI c := by rw [← hK, mm_set_ne (by decide), mm_set_ne (by decide), mm_set_ne (by decide), h2]; exact ec
      have k28 : K 28 (4 * t + c) = nI (fld (4 * t + c)) := by rw [← hK, mm_set_ne (by decide), mm_set_ne (by decide), mm_set_ne (by decide)]; exact (hT.2.1 _ hf).1
      have q2 := @b122_82 l X d K J (nI p) mc ms o σ'
      rw [ix_cl (by omega), k33, k32, jx4, ix_cl (by omega), k28] at q2
      refine q2 (ix_in hp (by omega)) (ix_in hp (by omega)) (ix_in hf (by omega)) (b122_102 ?_)
      rw [ef] at rr
      rw [Int32.sub_eq_add_neg, kx_dec]
      exact rr
  · rcases hτ : τ [] with _ | c
    · have ef : fl fld τ t = 0 := by rw [fl, hτ]
      rw [ef] at rr
      exact b122_78 (b122_102 rr)
    · rw [cod, hτ] at z
      have := (hH.hd.2.2 c hτ).1
      have := hT.tw.1 t ht
      exact absurd (Int32.not_lt.mp (nI_pos (by omega))) z
theorem v122_kids {n' : Nat} {g : Nat → List Int32} {I0 : Nat → Nat → Int32} (m0 : Nat)
    (hIH : ∀ k s' L (I : Nat → Nat → Int32) (J : Nat → Nat → Int64), k < m0 → (∀ r, r ∉ [26, 34, 35, 36] → I r = I0 r) → I 26 10 = nI (s' + 1) → I 35 s' = nI (4 * p + k + 1) → RW (I 26 8) (I 34) L → s' + 1 + 2 * n' ≤ 512 → L.length + (g k).length ≤ 256 →
      ∃ I' J', (∀ {mc ms : Nat} {o : mm_O} {σ' : mm_S}, mm_Run l X 122 (d + 1) 17 [.ref 26, .null, .null, .null] [] (mm_Λ, I', J') mc ms o σ' → mm_Run l X 122 (d + 1) 17 [.ref 26, .null, .null, .null] [] (mm_Λ, I, J) mc ms o σ') ∧ I' 26 10 = nI s' ∧ RW (I' 26 8) (I' 34) (L ++ g k) ∧ SF [34] [8] s' I I' J J') :
    ∀ (m k : Nat) (L : List Int32) (I : Nat → Nat → Int32) (J : Nat → Nat → Int64), k + m = m0 → (∀ r, r ∉ [26, 34, 35, 36] → I r = I0 r) → I 26 10 = nI (s + m) → (∀ j, k ≤ j → j < m0 → I 35 (s + (m0 - 1 - j)) = nI (4 * p + j + 1)) → RW (I 26 8) (I 34) L → s + m + 2 * n' ≤ 512 → L.length + (cat g m k).length ≤ 256 →
      ∃ I' J', (∀ {mc ms : Nat} {o : mm_O} {σ' : mm_S}, mm_Run l X 122 (d + 1) 17 [.ref 26, .null, .null, .null] [] (mm_Λ, I', J') mc ms o σ' → mm_Run l X 122 (d + 1) 17 [.ref 26, .null, .null, .null] [] (mm_Λ, I, J) mc ms o σ') ∧ I' 26 10 = nI s ∧ RW (I' 26 8) (I' 34) (L ++ cat g m k) ∧ SF [34] [8] s I I' J J'
  | 0, k, L, I, J, hk, hI, h10, h35, hR, hs, hL => ⟨I, J, fun rr => rr, h10, by rw [cat, List.append_nil]; exact hR, SF.refl⟩
  | m + 1, k, L, I, J, hk, hI, h10, h35, hR, hs, hL => by
    rw [cat, List.length_append] at hL
    obtain ⟨I1, J1, st1, a1, a2, a3⟩ := hIH k (s + m) L I J (by omega) hI h10 (by have := h35 k (Nat.le_refl _) (by omega); rw [show s + (m0 - 1 - k) = s + m by omega] at this; exact this) hR (by omega) (by omega)
    obtain ⟨I', J', st, b1, b2, b3⟩ := v122_kids m0 hIH m (k + 1) (L ++ g k) I1 J1 (by omega) (fun r hr => by rw [a3.2.1 r (by simp only [List.mem_cons, List.not_mem_nil, or_false, not_or] at hr ⊢; exact ⟨hr.1, hr.2.2.1, hr.2.2.2, hr.2.1⟩)]; exact hI r hr) a1 (fun j h1 h2 => by rw [(a3.1 _ (by omega)).1]; exact h35 j (by omega) h2) a2 (by omega) (by rw [List.length_append]; omega)
    refine ⟨I', J', fun rr => st1 (st rr), b1, by rw [cat, ← List.append_assoc]; exact b2, a3.trans_le b3 (by omega)⟩
end SHOWM
