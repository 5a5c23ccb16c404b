section SHOWM2
variable {l : Launch} {X : Nat × (Nat → Int32)} {d : Nat} {I I' I'' : Nat → Nat → Int32} {J J' J'' : Nat → Nat → Int64} {mc ms : Nat} {cnt fld fty : Nat → Nat} {p t c n s : Nat} {τ : TR} {L : List Int32}
theorem v122_top : ∀ (n h p t s : Nat) (τ : TR) (L : List Int32) (I : Nat → Nat → Int32) (J : Nat → Nat → Int64), n + h ≤ 4 → p < 4 ^ h → t < 6 → TV I 27 28 29 cnt fld fty → HT false cnt fld fty (I 33) (I 32) (I 32) n τ t p → I 26 10 = nI (s + 1) → I 35 s = nI p → RW (I 26 8) (I 34) L → s + 1 + 2 * n ≤ 512 → L.length + (preT fld fty n τ t).length ≤ 256 →
      ∃ I' J', (∀ {mc ms : Nat} {o : mm_O} {σ' : mm_S}, mm_Run l X 122 (d + 1) 17 [.ref 26, .null, .null, .null] [] (mm_Λ, I', J') mc ms o σ' → mm_Run l X 122 (d + 1) 17 [.ref 26, .null, .null, .null] [] (mm_Λ, I, J) mc ms o σ') ∧ I' 26 10 = nI s ∧ RW (I' 26 8) (I' 34) (L ++ preT fld fty n τ t) ∧ SF [34] [8] s I I' J J' := by
  intro n
  induction n with
  | zero =>
    intro h p t s τ L I J hn hp ht hT hH h10 h35 hR hs hL
    have hp256 : p < 256 := Nat.lt_of_lt_of_le hp (Nat.pow_le_pow_right (n := 4) (by decide) (show h ≤ 4 by omega))
    obtain ⟨h1, h2, -, h4, h5⟩ := hH.u hT.tw ht
    have h0 : fl fld τ t = 0 := Nat.eq_zero_of_not_pos fun q => absurd (h5 0 q).1 (by omega)
    rw [preT, List.length_singleton] at hL
    refine ⟨mm_set (mm_set (mm_set I 26 10 (nI s)) 34 L.length (cod τ)) 26 8 (nI (L.length + 1)), J, fun rr => v122_head hT hH ht hp256 h10 (by omega) h35 hR (by omega) ?_, by simp [mm_set], hR.add (by simp [mm_set]) (by simp [mm_set]) (fun j hj => by simp [mm_set]; omega), ⟨fun i hi => ⟨by simp [mm_set], by simp [mm_set], rfl⟩, fun r hr => ?_, fun i hi => ?_, fun _ _ => rfl⟩⟩
    · rw [h0]
      exact b122_107 (fun _ => b122_130 rr) (fun q => absurd (by decide) q)
    · simp only [List.mem_cons, List.not_mem_nil, or_false, not_or] at hr
      rw [mm_set_ne hr.1, mm_set_ne hr.2.2.2, mm_set_ne hr.1]
    · simp only [List.mem_cons, List.not_mem_nil, or_false, not_or] at hi
      simp [mm_set, hi.1, hi.2]
  | succ n ih =>
    intro h p t s τ L I J hn hp ht hT hH h10 h35 hR hs hL
    have hp64 : p < 64 := Nat.lt_of_lt_of_le hp (Nat.pow_le_pow_right (n := 4) (by decide) (show h ≤ 3 by omega))
    obtain ⟨h1, h2, -, h4, h5⟩ := hH.u hT.tw ht
    rw [preT, List.length_cons] at hL
    have hK1 : SF [34] [8] s I (mm_set (mm_set (mm_set I 26 10 (nI s)) 34 L.length (cod τ)) 26 8 (nI (L.length + 1))) J J := by
      refine ⟨fun i hi => ⟨by simp [mm_set], by simp [mm_set], rfl⟩, fun r hr => ?_, fun i hi => ?_, fun _ _ => rfl⟩
      · simp only [List.mem_cons, List.not_mem_nil, or_false, not_or] at hr
        rw [mm_set_ne hr.1, mm_set_ne hr.2.2.2, mm_set_ne hr.1]
      · simp only [List.mem_cons, List.not_mem_nil, or_false, not_or] at hi
        simp [mm_set, hi.1, hi.2]
    have hKR : RW ((mm_set (mm_set (mm_set I 26 10 (nI s)) 34 L.length (cod τ)) 26 8 (nI (L.length + 1))) 26 8) ((mm_set (mm_set (mm_set I 26 10 (nI s)) 34 L.length (cod τ)) 26 8 (nI (L.length + 1))) 34) (L ++ [cod τ]) := hR.add (by simp [mm_set]) (by simp [mm_set]) (fun j hj => by simp [mm_set]; omega)
    have hK10 : (mm_set (mm_set (mm_set I 26 10 (nI s)) 34 L.length (cod τ)) 26 8 (nI (L.length + 1))) 26 10 = nI s := by simp [mm_set]
    have hd := fun {mc ms : Nat} {o : mm_O} {σ' : mm_S} => @v122_head l X d I J mc ms cnt fld fty p t (n + 1) s τ L hT hH ht (by omega) h10 (by omega) h35 hR (by omega) o σ'
    generalize mm_set (mm_set (mm_set I 26 10 (nI s)) 34 L.length (cod τ)) 26 8 (nI (L.length + 1)) = K at hK1 hKR hK10 hd
    obtain ⟨I1, J1, st1, a1, a2, a3⟩ := @v122_push l X d p (nI (fl fld τ t)) (fl fld τ t) s K J hK10 (by omega)
    have a3' : SF [34] [8] s K I1 J J1 := a3.mono (fun r hr => by simp at hr) (fun r hr => by simp at hr)
    have hI1 : ∀ r, r ∉ [26, 34, 35, 36] → I1 r = I r := fun r hr => by
      have hr' : r ∉ 26 :: 35 :: 36 :: [34] := by
        simp only [List.mem_cons, List.not_mem_nil, or_false, not_or] at hr ⊢
        exact ⟨hr.1, hr.2.2.1, hr.2.2.2, hr.2.1⟩
      rw [a3'.2.1 r hr', hK1.2.1 r hr']
    have hR1 : RW (I1 26 8) (I1 34) (L ++ [cod τ]) := by
      rw [a3.2.2.1 8 (by decide), a3.2.1 34 (by decide)]; exact hKR
    obtain ⟨I', J', st, b1, b2, b3⟩ := @v122_kids l X d p s n (fun k => preT fld fty n (tkid τ k) (kty fty τ t k)) I (fl fld τ t)
      (fun k s' L' I2 J2 hk hI2 g10 g35 gR gs gL => by
        obtain ⟨-, k6, kH⟩ := h5 k hk
        refine ih (h + 1) (4 * p + k + 1) (kty fty τ t k) s' (tkid τ k) L' I2 J2 (by omega) (by rw [Nat.pow_succ]; omega) k6 (hT.of (hI2 27 (by decide)) (hI2 28 (by decide)) (hI2 29 (by decide))) ?_ g10 g35 gR gs gL
        rw [hI2 33 (by decide), hI2 32 (by decide)]
        exact kH) (fl fld τ t) 0 (L ++ [cod τ]) I1 J1 (by omega) hI1 a1 (fun j _ hj => a2 j hj) hR1 (by omega) (by rw [List.length_append, List.length_singleton]; omega)
    refine ⟨I', J', fun rr => hd (st1 (st rr)), b1, ?_, (hK1.trans a3' (Nat.le_refl _)).trans b3 (Nat.le_refl _)⟩
    rw [preT]
    rw [List.append_assoc] at b2
    exact b2
/-- showValue -/
theorem c122 (hn : n ≤ 4) (ht : t < 6) (hT : TV I 27 28 29 cnt fld fty) (hH : HT false cnt fld fty (I 33) (I 32) (I 32) n τ t 0) :
    ∃ I' J', mm_Call l X 122 (d + 1) [.ref 26] (mm_Λ, I, J) mc ms (.inl none) (mm_Λ, I', J') ∧ RW (I' 26 8) (I' 34) (preT fld fty n τ t) ∧ SF [34] [8] 0 I I' J J' := by
  have hb : bnd n ≤ 121 := by
    match n, hn with
    | 0, _ => decide
    | 1, _ => decide
    | 2, _ => decide
    | 3, _ => decide
    | 4, _ => decide
  have hl := preT_len hT.tw n τ t 0 ht hH
  have hK1 : SF [34] [8] 0 I (mm_set (mm_set I 26 8 0) 26 10 0) J J := by
    refine ⟨fun i hi => by omega, fun r hr => ?_, fun i hi => ?_, fun _ _ => rfl⟩
    · simp only [List.mem_cons, List.not_mem_nil, or_false, not_or] at hr
      rw [mm_set_ne hr.1, mm_set_ne hr.1]
    · simp only [List.mem_cons, List.not_mem_nil, or_false, not_or] at hi
      simp [mm_set, hi.1, hi.2]
  have hp := @SF.push (mm_set (mm_set I 26 8 0) 26 10 0) J 0 0 0 0
  have hcall := @c119 l X d (mm_set (mm_set I 26 8 0) 26 10 0) J 0 0 0 0 0 0 (by omega) (by simp [mm_set]; exact nI_0.symm)
  have h8 : (mm_set (mm_set I 26 8 0) 26 10 0) 26 8 = nI 0 := by simp [mm_set]; exact nI_0.symm
  generalize hKe : mm_set (mm_set I 26 8 0) 26 10 0 = K at hK1 hp hcall h8
  have hK10 : (mm_set (mm_set (mm_set K 35 0 0) 36 0 0) 26 10 (nI (0 + 1))) 26 10 = nI (0 + 1) := by simp [mm_set]
  have hK35 : (mm_set (mm_set (mm_set K 35 0 0) 36 0 0) 26 10 (nI (0 + 1))) 35 0 = nI 0 := by simp [mm_set]; exact nI_0.symm
  generalize mm_set (mm_set (mm_set K 35 0 0) 36 0 0) 26 10 (nI (0 + 1)) = I1 at hp hcall hK10 hK35
  have hp' : SF [34] [8] 0 K I1 J (mm_set J 37 0 0) := hp.mono (fun r hr => by simp at hr) (fun r hr => by simp at hr)
  have hq := hK1.trans hp' (Nat.le_refl _)
  obtain ⟨I', J', st, b1, b2, b3⟩ := @v122_top l X d cnt fld fty n 0 0 t 0 τ [] I1 (mm_set J 37 0 0) (by omega) (by decide) ht (hT.of (hq.2.1 27 (by decide)) (hq.2.1 28 (by decide)) (hq.2.1 29 (by decide))) (by rw [hq.2.1 33 (by decide), hq.2.1 32 (by decide)]; exact hH) hK10 hK35 ⟨by rw [hp.2.2.1 8 (by decide)]; exact h8, fun j x hx => by simp at hx⟩ (by omega) (by simp; omega)
  exact ⟨I', J', b122_0 (I1 := I1) (J1 := mm_set J 37 0 0) (by rw [hKe]; exact hcall) (st (b122_17 (fun _ => b122_133) (fun q => absurd (by rw [b1]; decide) q))), b2, hq.trans b3 (Nat.le_refl _)⟩
/-- clearValue -/
theorem c118_loop : ∀ (n p : Nat) (I : Nat → Nat → Int32), p + n = 256 → ∃ I', mm_Run l X 118 d 2 [.ref 26, .int (nI p)] [] (mm_Λ, I, J) mc ms (.inl none) (mm_Λ, I', J) ∧ (∀ r, r ≠ 32 → I' r = I r) ∧ (∀ q, p ≤ q → q < 256 → I' 32 q = -1) ∧ ∀ q, q < p → I' 32 q = I 32 q
  | 0, p, I, hp => ⟨I, b118_2 (fun _ => b118_22) (fun q => absurd (nI_le (a := 256) (by omega) (by omega)) q), fun _ _ => rfl, fun q a b => by omega, fun _ _ => rfl⟩
  | n + 1, p, I, hp => by
    obtain ⟨I', r, f1, f2, f3⟩ := c118_loop n (p + 1) (mm_set I 32 p (-1)) (by omega)
    refine ⟨I', b118_2 (fun q => absurd q (nI_ge (b := 256) (by omega) (by omega))) (fun _ => b118_9 (ix_in (by omega) (by omega)) ?_), fun r hr => by rw [f1 r hr, mm_set_ne hr], fun q a b => ?_, fun q hq => ?_⟩
    · rw [ix_cl (by omega), nI_1]; exact r
    · by_cases e : q = p
      · subst e
        rw [f3 q (by omega)]; simp [mm_set]
      · exact f2 q (by omega) b
    · rw [f3 q (by omega)]
      have : q ≠ p := by omega
      simp [mm_set, this]
theorem c118 : ∃ I', mm_Call l X 118 d [.ref 26] (mm_Λ, I, J) mc ms (.inl none) (mm_Λ, I', J) ∧ (∀ r, r ≠ 32 → I' r = I r) ∧ ∀ q, q < 256 → I' 32 q = -1 := by
  obtain ⟨I', r, f1, f2, -⟩ := @c118_loop l X d J mc ms 256 0 I rfl
  rw [nI_0] at r
  exact ⟨I', b118_0 r, f1, fun q hq => f2 q (Nat.zero_le _) hq⟩
/-! place, build -/
theorem c121_pick {e : Nat} {x4 : Int64} (hT : TV I 27 28 29 cnt fld fty) (ht : t < 6) (he : e < 6) (hJ : ∀ u, u < 6 → J 30 (6 * u + e) = lN (DN cnt fld fty e u)) {o : mm_O} {σ' : mm_S} : ∀ (n c r : Nat), c + n + 1 = cnt t → r < sm (fun c => DFN cnt fld fty e (4 * t + c)) (n + 1) c → r < mny →
    mm_Run l X 121 (d + 2) 40 [.ref 26, .int (nI p), .int (nI t), .int (nI e), .long x4, .null, .int (nI (pkC (fun c => DFN cnt fld fty e (4 * t + c)) n c r).1), .long (lN (pkC (fun c => DFN cnt fld fty e (4 * t + c)) n c r).2), .null, .null, .null, .null] [] (mm_Λ, I, J) mc ms o σ' →
    mm_Run l X 121 (d + 2) 7 [.ref 26, .int (nI p), .int (nI t), .int (nI e), .long x4, .null, .int (nI c), .long (lN r), .null, .null, .null, .null] [] (mm_Λ, I, J) mc ms o σ'
  | 0, c, r, hc, hr, hm, rr => by
    have hf : 4 * t + c < 24 := hT.tw.form ht (by omega)
    have hm62 := mny_lt
    have hle := DFN_le cnt fld fty e (4 * t + c)
    have hr' : r < DFN cnt fld fty e (4 * t + c) := by simpa [sm] using hr
    exact b121_7 (c106 hT hf he hJ) (b121_17 (fun _ => rr) (fun q => absurd ((lgclt _ _).mpr ((gL_lt (by omega) (by omega)).mpr hr')) q))
  | n + 1, c, r, hc, hr, hm, rr => by
    have hf : 4 * t + c < 24 := hT.tw.form ht (by omega)
    have hm62 := mny_lt
    have hle := DFN_le cnt fld fty e (4 * t + c)
    rw [pkC] at rr
    refine b121_7 (c106 hT hf he hJ) (b121_17 (fun q => ?_) (fun q => b121_21 (c106 hT hf he hJ) (b121_31 ?_)))
    · have hlt : r < DFN cnt fld fty e (4 * t + c) := (gL_lt (by omega) (by omega)).mp ((lgclt _ _).mp q)
      rw [if_pos hlt] at rr
      exact rr
    · have hlt : ¬ r < DFN cnt fld fty e (4 * t + c) := fun z => q ((lgclt _ _).mpr ((gL_lt (by omega) (by omega)).mpr z))
      rw [if_neg hlt] at rr
      rw [lN_sub (by omega), nI_1]
      have hr' : r < DFN cnt fld fty e (4 * t + c) + sm (fun c => DFN cnt fld fty e (4 * t + c)) (n + 1) (c + 1) := hr
      exact c121_pick hT ht he hJ n (c + 1) _ (by omega) (by omega) (by omega) rr
theorem c121_push {e m r0 f : Nat} {x4 : Int64} {g : Nat → Nat} (hT : TV I 27 28 29 cnt fld fty) (hf : 4 * t + c < 24) (he : e < 6) (hm : fld (4 * t + c) = m) (hJ : ∀ u, u < 6 → J 30 (6 * u + e) = lN (DN cnt fld fty e u)) (hg : g = fN cnt fld fty e (4 * t + c)) (hpos : ∀ i, i < m → 0 < g i) (hr0 : r0 < mny) :
    ∀ (kk s : Nat) (I' : Nat → Nat → Int32) (J' : Nat → Nat → Int64), kk ≤ m → I' 26 10 = nI s → s + kk ≤ 512 → (∀ r, r ∉ [26, 32, 33, 35, 36] → I' r = I r) → J' 30 = J 30 →
    ∃ I'' J'', mm_Run l X 121 (d + 1) 70 [.ref 26, .int (nI p), .int (nI t), .int (nI e), .long x4, .null, .int (nI c), .long (lN (r0 / prd g (m - kk) kk)), .null, .int (kx kk), .null, .null] [] (mm_Λ, I', J') mc ms (.inl none) (mm_Λ, I'', J'') ∧ I'' 26 10 = nI (s + kk) ∧
      (∀ j, j < kk → I'' 35 (s + (kk - 1 - j)) = nI (4 * p + j + 1) ∧ I'' 36 (s + (kk - 1 - j)) = nI (fty (3 * (4 * t + c) + j)) ∧ J'' 37 (s + (kk - 1 - j)) = lN (dg g m r0 j)) ∧ SF [] [] s I' I'' J' J''
  | 0, s, I', J', hk, h10, hs, hI, hJ' => ⟨I', J', b121_70 (fun _ => b121_135) (fun q => absurd (by decide) q), h10, fun j hj => by omega, SF.refl⟩
  | kk + 1, s, I', J', hk, h10, hs, hI, hJ' => by
    have hT' : TV I' 27 28 29 cnt fld fty := hT.of (hI 27 (by decide)) (hI 28 (by decide)) (hI 29 (by decide))
    have h3 := hT.tw.2.1 _ hf
    have h6 := hT.tw.2.2 _ hf kk (by omega)
    have hm62 := mny_lt
    have hgk : g kk ≤ mny := by rw [hg]; exact DN_le _ _ _ _ _
    have hgp := hpos kk (by omega)
    have hJk : J' 30 (6 * fty (3 * (4 * t + c) + kk) + e) = lN (g kk) := by rw [hJ', hJ _ h6, hg]; rfl
    have hR : r0 / prd g (m - (kk + 1)) (kk + 1) < 2 ^ 62 := Nat.lt_of_le_of_lt (Nat.div_le_self _ _) (by omega)
    have hn0 : ¬ lN (g kk) = 0 := fun q => absurd ((gL_eq (by omega) (by omega)).mp (q.trans lit_0)) (by omega)
    have hdiv : r0 / prd g (m - (kk + 1)) (kk + 1) / g kk = r0 / prd g (m - kk) kk := by
      rw [Nat.div_div_eq_div_mul, show m - kk = (m - (kk + 1)) + 1 by omega, prd, Nat.mul_comm]
    let K := mm_set (mm_set (mm_set I' 35 s (nI (4 * p + kk + 1))) 36 s (nI (fty (3 * (4 * t + c) + kk)))) 26 10 (nI (s + 1))
    have hK : ∀ r, r ∉ [26, 32, 33, 35, 36] → K r = I r := fun r hr => by
      have hr' := hr
      simp only [List.mem_cons, List.not_mem_nil, or_false, not_or] at hr'
      show mm_set _ _ _ _ r = _
      rw [mm_set_ne hr'.1, mm_set_ne hr'.2.2.2.2, mm_set_ne hr'.2.2.2.1]
      exact hI r hr
    obtain ⟨I'', J'', r, g1, g2, g3⟩ := c121_push (x4 := x4) (f := f) hT hf he hm hJ hg hpos hr0 kk (s + 1) K (mm_set J' 37 s (lN (dg g m r0 kk))) (by omega) (by simp [K, mm_set]) (by omega) hK (by rw [mm_set_ne (by decide)]; exact hJ')
    have q90 := @b121_90 l X d I' J' (nI p) (nI t) (nI e) x4 (nI c) (lN (r0 / prd g (m - (kk + 1)) (kk + 1))) (nI kk) (nI (fty (3 * (4 * t + c) + kk))) 6
    rw [jx6, ix_cl (by omega), hJk, jx4, nI_1] at q90
    refine ⟨I'', J'', b121_70 (fun q => absurd q (nI_pos (by omega))) (fun _ => b121_75 (c107 hT' hf (by omega)) (q90 (ix_in (by omega) (by omega)) (c107 hT' hf (by omega)) (b121_114 (I1 := K) (J1 := mm_set J' 37 s (lN (dg g m r0 kk))) hn0 ?_ (b121_122 hn0 ?_)))), by rw [g1]; congr 1; omega, fun j hj => ?_, SF.push.trans g3 (by omega)⟩
    · rw [gL_mod hR (by omega)]
      exact c119 (by omega) h10
    · show mm_Run l X 121 (d + 1) 70 [.ref 26, .int (nI p), .int (nI t), .int (nI e), .long x4, .null, .int (nI c), .long (lN (r0 / prd g (m - (kk + 1)) (kk + 1)) / lN (g kk)), .null, .int (nI kk + (-1)), .null, .null] [] _ _ _ _ _
      rw [gL_div hR (by omega), hdiv, kx_dec]
      exact r
    · by_cases e1 : j = kk
      · subst e1
        obtain ⟨z1, z2, z3⟩ := g3.1 s (by omega)
        rw [show s + (j + 1 - 1 - j) = s by omega, z1, z2, z3]
        simp [K, mm_set]
      · rw [show s + (kk + 1 - 1 - j) = s + 1 + (kk - 1 - j) by omega]
        exact g2 j (by omega)
/-- place -/
theorem c121 {e : Nat} (hT : TV I 27 28 29 cnt fld fty) (ht : t < 6) (he : e < 5) (hp : p < 256) (hn : n < DN cnt fld fty (e + 1) t) (hJ : ∀ u, u < 6 → J 30 (6 * u + e) = lN (DN cnt fld fty e u)) (h10 : I 26 10 = nI s) (hs : s + 3 ≤ 512) :
    ∃ I' J', mm_Call l X 121 (d + 2) [.ref 26, .int (nI p), .int (nI t), .int (nI e), .long (lN n)] (mm_Λ, I, J) mc ms (.inl none) (mm_Λ, I', J') ∧ I' 26 10 = nI (s + fld (4 * t + (pkT cnt fld fty e t n).1)) ∧
      (∀ j, j < fld (4 * t + (pkT cnt fld fty e t n).1) → I' 35 (s + (fld (4 * t + (pkT cnt fld fty e t n).1) - 1 - j)) = nI (4 * p + j + 1) ∧ I' 36 (s + (fld (4 * t + (pkT cnt fld fty e t n).1) - 1 - j)) = nI (fty (3 * (4 * t + (pkT cnt fld fty e t n).1) + j)) ∧ J' 37 (s + (fld (4 * t + (pkT cnt fld fty e t n).1) - 1 - j)) = lN (dg (fN cnt fld fty e (4 * t + (pkT cnt fld fty e t n).1)) (fld (4 * t + (pkT cnt fld fty e t n).1)) (pkT cnt fld fty e t n).2 j)) ∧
      SF [32, 33] [] s I I' J J' ∧ I' 32 = (fun q => if q = p then nI (pkT cnt fld fty e t n).1 else I 32 q) ∧ I' 33 = (fun q => if q = p then nI t else I 33 q) := by
  obtain ⟨k1, k2, k3⟩ := pkT_ok cnt fld fty hn
  have hf := hT.tw.form ht k1
  have h3 := hT.tw.2.1 _ hf
  have hnm := DN_le cnt fld fty (e + 1) t
  have hsm : n < sm (fun c => DFN cnt fld fty e (4 * t + c)) (cnt t - 1 + 1) 0 := by
    rw [DN_succ] at hn
    have h1 := foldCN_le_sm (g := fun c => DFN cnt fld fty e (4 * t + c)) (cnt t) 0 0
    rw [Nat.sub_add_cancel (by omega)]; omega
  have hpos : ∀ i, i < fld (4 * t + (pkT cnt fld fty e t n).1) → 0 < fN cnt fld fty e (4 * t + (pkT cnt fld fty e t n).1) i := fun i hi => by
    rw [DFN_prd] at k2
    exact prd_pos (fld (4 * t + (pkT cnt fld fty e t n).1)) 0 (by omega) i (by omega) (by omega)
  have hc6 : ∀ r, r ∉ [26, 32, 33, 35, 36] → (mm_set (mm_set I 32 p (nI (pkT cnt fld fty e t n).1)) 33 p (nI t)) r = I r := fun r hr => by
    simp only [List.mem_cons, List.not_mem_nil, or_false, not_or] at hr
    rw [mm_set_ne hr.2.2.1, mm_set_ne hr.2.1]
  obtain ⟨I', J', r, g1, g2, g3⟩ := @c121_push l X (d + 1) I J mc ms cnt fld fty p t (pkT cnt fld fty e t n).1 e (fld (4 * t + (pkT cnt fld fty e t n).1)) (pkT cnt fld fty e t n).2 0 (lN n) _ hT hf (by omega) rfl hJ rfl hpos (by omega) (fld (4 * t + (pkT cnt fld fty e t n).1)) s (mm_set (mm_set I 32 p (nI (pkT cnt fld fty e t n).1)) 33 p (nI t)) J (Nat.le_refl _) (by simpa [mm_set] using h10) (by omega) hc6 rfl
  rw [Nat.sub_self, prd, Nat.div_one] at r
  refine ⟨I', J', b121_0 ?_, g1, g2, ⟨fun i hi => ?_, fun r hr => ?_, fun i hi => ?_, fun r hr => g3.2.2.2 r hr⟩, ?_, ?_⟩
  · rw [← nI_0]
    refine c121_pick hT ht (by omega) hJ (cnt t - 1) 0 n (by omega) hsm (by omega) ?_
    have q40 := @b121_40 l X (d + 1) I J (nI p) (nI t) (nI e) (lN n) (nI (pkT cnt fld fty e t n).1) (lN (pkT cnt fld fty e t n).2) mc ms (.inl none) (mm_Λ, I', J')
    rw [jx4, ix_cl (by omega), ix_cl (by omega), (hT.2.1 _ hf).1, Int32.sub_eq_add_neg, kx_dec] at q40
    exact q40 (ix_in hp (by omega)) (ix_in hp (by omega)) (ix_in hf (by omega)) r
  · obtain ⟨z1, z2, z3⟩ := g3.1 i hi
    exact ⟨by rw [z1]; simp [mm_set], by rw [z2]; simp [mm_set], z3⟩
  · simp only [List.mem_cons, List.not_mem_nil, or_false, not_or] at hr
    rw [g3.2.1 r (by simp only [List.mem_cons, List.not_mem_nil, or_false, not_or]; exact ⟨hr.1, hr.2.1, hr.2.2.1⟩), mm_set_ne hr.2.2.2.2, mm_set_ne hr.2.2.2.1]
  · rw [g3.2.2.1 i hi]
    simp [mm_set]
  · rw [g3.2.1 32 (by decide), mm_set_ne (by decide), mm_set_eq]
  · rw [g3.2.1 33 (by decide), mm_set_eq]
    funext q
    rw [mm_set_ne (by decide)]
end SHOWM2
