section BUILD
variable {l : Launch} {X : Nat × (Nat → Int32)} {d : Nat} {I I' I'' : Nat → Nat → Int32} {J J' J'' : Nat → Nat → Int64} {mc ms : Nat} {cnt fld fty : Nat → Nat} {p t c n s : Nat} {τ : TR} {L : List Int32}
/-- the reference's table of depths -/
def MJ (cnt fld fty : Nat → Nat) (J : Nat → Nat → Int64) : Prop := ∀ e u, e < 6 → u < 6 → J 30 (6 * u + e) = lN (DN cnt fld fty e u)
theorem bst_kid : ∀ p, p < 64 → ∀ k, k < 3 → bst 16 (4 * p + k + 1) = bst 16 p + 1 := by decide +kernel
theorem v117_head {e h D : Nat} {x1 : Int32} {x3 : Int64} (hD : h + e = D) (hD4 : D ≤ 4) (hp : p < 256) (hb : bst 16 p = h) (ht : t < 6) (hn : n < DN cnt fld fty (e + 1) t) (hT : TV I 27 28 29 cnt fld fty) (hJ : MJ cnt fld fty J) (h10 : I 26 10 = nI (s + 1)) (h35 : I 35 s = nI p) (h36 : I 36 s = nI t) (h37 : J 37 s = lN n) (hs : s + 3 ≤ 512) :
    ∃ I' J', (∀ {mc ms : Nat} {o : mm_O} {σ' : mm_S}, mm_Run l X 117 (d + 3) 16 [.ref 26, .int x1, .int (nI D), .long x3, .null, .null] [] (mm_Λ, I', J') mc ms o σ' → mm_Run l X 117 (d + 3) 16 [.ref 26, .int x1, .int (nI D), .long x3, .null, .null] [] (mm_Λ, I, J) mc ms o σ') ∧
      I' 26 10 = nI (s + fld (4 * t + (pkT cnt fld fty e t n).1)) ∧
      (∀ j, j < fld (4 * t + (pkT cnt fld fty e t n).1) → I' 35 (s + (fld (4 * t + (pkT cnt fld fty e t n).1) - 1 - j)) = nI (4 * p + j + 1) ∧ I' 36 (s + (fld (4 * t + (pkT cnt fld fty e t n).1) - 1 - j)) = nI (fty (3 * (4 * t + (pkT cnt fld fty e t n).1) + j)) ∧ J' 37 (s + (fld (4 * t + (pkT cnt fld fty e t n).1) - 1 - j)) = lN (dg (fN cnt fld fty e (4 * t + (pkT cnt fld fty e t n).1)) (fld (4 * t + (pkT cnt fld fty e t n).1)) (pkT cnt fld fty e t n).2 j)) ∧
      SF [32, 33] [] s I I' J J' ∧ I' 32 = (fun q => if q = p then nI (pkT cnt fld fty e t n).1 else I 32 q) ∧ I' 33 = (fun q => if q = p then nI t else I 33 q) := by
  have hT' : TV (mm_set I 26 10 (nI s)) 27 28 29 cnt fld fty := hT.of (mm_set_ne (by decide)) (mm_set_ne (by decide)) (mm_set_ne (by decide))
  obtain ⟨I', J', r, g1, g2, g3, g4, g5⟩ := @c121 l X d (mm_set I 26 10 (nI s)) J 0 0 cnt fld fty p t n s e hT' ht (by omega) hp hn (fun u hu => hJ e u (by omega) hu) (by simp [mm_set]) hs
  refine ⟨I', J', fun {mc ms o σ'} rr => b117_16 (fun z => absurd z (by rw [h10]; exact nI_nle (by omega) (by omega))) (fun _ => ?_), g1, g2, ⟨fun i hi => ?_, fun r hr => ?_, fun i hi => ?_, g3.2.2.2⟩, ?_, ?_⟩
  · have q := @b117_23 l X (d + 2) I J x1 (nI D) x3
    rw [h10, nI_pred, ix_cl (by omega), h35, h36] at q
    refine q (ix_in (by omega) (by omega)) (ix_in (by omega) (by omega)) (c120 p (by omega)) ?_
    have q2 := @b117_62 l X (d + 2) (mm_set I 26 10 (nI s)) J x1 (nI D) x3 (nI p) (nI (bst 16 p)) (nI D) (nI t) (nI p)
    have k10 : (mm_set I 26 10 (nI s)) 26 10 = nI s := by simp [mm_set]
    rw [k10, ix_cl (by omega), h37, hb, nI_sub (by omega), show D - h = e by omega] at q2
    rw [hb]
    exact q2 (ix_in (by omega) (by omega)) r (b117_75 rr)
  · obtain ⟨z1, z2, z3⟩ := g3.1 i hi
    exact ⟨by rw [z1]; simp [mm_set], by rw [z2]; simp [mm_set], z3⟩
  · rw [g3.2.1 r hr, mm_set_ne (by simp only [List.mem_cons, not_or] at hr; exact hr.1)]
  · rw [g3.2.2.1 i hi]
    simp only [List.mem_cons, List.not_mem_nil, or_false] at hi
    simp [mm_set, hi]
  · rw [g4, mm_set_ne (by decide)]
  · rw [g5, mm_set_ne (by decide)]
theorem v117_kids {e D : Nat} {x1 : Int32} {x3 : Int64} {ty nm : Nat → Nat} {I0 : Nat → Nat → Int32} (hW : TW cnt fld fty) (m0 : Nat) (h3 : m0 ≤ 3) (hty : ∀ j, j < m0 → ty j < 6)
    (hIH : ∀ k s' (I : Nat → Nat → Int32) (J : Nat → Nat → Int64), k < m0 → (∀ r, r ∉ [26, 32, 33, 35, 36] → I r = I0 r) → MJ cnt fld fty J → I 26 10 = nI (s' + 1) → I 35 s' = nI (4 * p + k + 1) → I 36 s' = nI (ty k) → J 37 s' = lN (nm k) → s' + 1 + 2 * e ≤ 500 →
      ∃ I' J', (∀ {mc ms : Nat} {o : mm_O} {σ' : mm_S}, mm_Run l X 117 (d + 3) 16 [.ref 26, .int x1, .int (nI D), .long x3, .null, .null] [] (mm_Λ, I', J') mc ms o σ' → mm_Run l X 117 (d + 3) 16 [.ref 26, .int x1, .int (nI D), .long x3, .null, .null] [] (mm_Λ, I, J) mc ms o σ') ∧ I' 26 10 = nI s' ∧ HT false cnt fld fty (I' 33) (I' 32) (I' 32) e (bld cnt fld fty (e + 1) (ty k) (nm k)) (ty k) (4 * p + k + 1) ∧ SF [32, 33] [] s' I I' J J' ∧ ∀ q, ¬ bel (4 * p + k + 1) q → I' 32 q = I 32 q ∧ I' 33 q = I 33 q) :
    ∀ (m k : Nat) (I : Nat → Nat → Int32) (J : Nat → Nat → Int64), k + m = m0 → (∀ r, r ∉ [26, 32, 33, 35, 36] → I r = I0 r) → MJ cnt fld fty J → I 26 10 = nI (s + m) → (∀ j, k ≤ j → j < m0 → I 35 (s + (m0 - 1 - j)) = nI (4 * p + j + 1) ∧ I 36 (s + (m0 - 1 - j)) = nI (ty j) ∧ J 37 (s + (m0 - 1 - j)) = lN (nm j)) → s + m + 2 * e ≤ 500 →
      ∃ I' J', (∀ {mc ms : Nat} {o : mm_O} {σ' : mm_S}, mm_Run l X 117 (d + 3) 16 [.ref 26, .int x1, .int (nI D), .long x3, .null, .null] [] (mm_Λ, I', J') mc ms o σ' → mm_Run l X 117 (d + 3) 16 [.ref 26, .int x1, .int (nI D), .long x3, .null, .null] [] (mm_Λ, I, J) mc ms o σ') ∧ I' 26 10 = nI s ∧ (∀ j, k ≤ j → j < m0 → HT false cnt fld fty (I' 33) (I' 32) (I' 32) e (bld cnt fld fty (e + 1) (ty j) (nm j)) (ty j) (4 * p + j + 1)) ∧ SF [32, 33] [] s I I' J J' ∧ ∀ q, (∀ j, k ≤ j → j < m0 → ¬ bel (4 * p + j + 1) q) → I' 32 q = I 32 q ∧ I' 33 q = I 33 q
  | 0, k, I, J, hk, hI, hJ, h10, hst, hs => ⟨I, J, fun rr => rr, h10, fun j a b => by omega, SF.refl, fun _ _ => ⟨rfl, rfl⟩⟩
  | m + 1, k, I, J, hk, hI, hJ, h10, hst, hs => by
    obtain ⟨u1, u2, u3⟩ := hst k (Nat.le_refl _) (by omega)
    rw [show s + (m0 - 1 - k) = s + m by omega] at u1 u2 u3
    obtain ⟨I1, J1, st1, a1, a2, a3, a4⟩ := hIH k (s + m) I J (by omega) hI hJ h10 u1 u2 u3 (by omega)
    obtain ⟨I', J', st, b1, b2, b3, b4⟩ := v117_kids hW m0 h3 hty hIH m (k + 1) I1 J1 (by omega) (fun r hr => by rw [a3.2.1 r (by simp only [List.mem_cons, List.not_mem_nil, or_false, not_or] at hr ⊢; exact ⟨hr.1, hr.2.2.2.1, hr.2.2.2.2, hr.2.1, hr.2.2.1⟩)]; exact hI r hr) (fun e' u a b => by rw [a3.2.2.2 30 (by decide)]; exact hJ e' u a b) a1
      (fun j h1 h2 => by
        obtain ⟨z1, z2, z3⟩ := a3.1 (s + (m0 - 1 - j)) (by omega)
        rw [z1, z2, z3]
        exact hst j (by omega) h2) (by omega)
    refine ⟨I', J', fun rr => st1 (st rr), b1, fun j h1 h2 => ?_, a3.trans_le b3 (by omega), fun q hq => ?_⟩
    · by_cases e1 : j = k
      · subst e1
        refine a2.frame hW (hty j h2) fun q hq => ?_
        obtain ⟨z1, z2⟩ := b4 q fun i a b z => bel_dis (by omega) (by omega) (show j ≠ i by omega) hq z
        exact ⟨z2, z1, z1⟩
      · exact b2 j (by omega) h2
    · obtain ⟨z1, z2⟩ := b4 q fun j a b => hq j (by omega) b
      obtain ⟨y1, y2⟩ := a4 q (hq k (Nat.le_refl _) (by omega))
      exact ⟨by rw [z1, y1], by rw [z2, y2]⟩
theorem v117_top {D : Nat} {x1 : Int32} {x3 : Int64} (hD4 : D ≤ 4) : ∀ (e h p t n s : Nat) (I : Nat → Nat → Int32) (J : Nat → Nat → Int64), h + e = D → p < 4 ^ h → bst 16 p = h → t < 6 → n < DN cnt fld fty (e + 1) t → TV I 27 28 29 cnt fld fty → MJ cnt fld fty J → I 26 10 = nI (s + 1) → I 35 s = nI p → I 36 s = nI t → J 37 s = lN n → s + 1 + 2 * e ≤ 500 →
      ∃ I' J', (∀ {mc ms : Nat} {o : mm_O} {σ' : mm_S}, mm_Run l X 117 (d + 3) 16 [.ref 26, .int x1, .int (nI D), .long x3, .null, .null] [] (mm_Λ, I', J') mc ms o σ' → mm_Run l X 117 (d + 3) 16 [.ref 26, .int x1, .int (nI D), .long x3, .null, .null] [] (mm_Λ, I, J) mc ms o σ') ∧ I' 26 10 = nI s ∧ HT false cnt fld fty (I' 33) (I' 32) (I' 32) e (bld cnt fld fty (e + 1) t n) t p ∧ SF [32, 33] [] s I I' J J' ∧ ∀ q, ¬ bel p q → I' 32 q = I 32 q ∧ I' 33 q = I 33 q := by
  intro e
  induction e with
  | zero =>
    intro h p t n s I J hD hp hb ht hn hT hJ h10 h35 h36 h37 hs
    have hp256 : p < 256 := Nat.lt_of_lt_of_le hp (Nat.pow_le_pow_right (n := 4) (by decide) (show h ≤ 4 by omega))
    obtain ⟨k1, k2, k3⟩ := pkT_ok cnt fld fty hn
    have h0 : fld (4 * t + (pkT cnt fld fty 0 t n).1) = 0 := by
      apply Nat.eq_zero_of_not_pos
      intro q
      rw [DFN_prd] at k2
      have := prd_pos (g := fN cnt fld fty 0 (4 * t + (pkT cnt fld fty 0 t n).1)) (fld (4 * t + (pkT cnt fld fty 0 t n).1)) 0 (by omega) 0 (by omega) (by omega)
      exact absurd this (by unfold fN; simp [DN])
    obtain ⟨I', J', st, g1, -, g3, g4, g5⟩ := @v117_head l X d I J cnt fld fty p t n s 0 h D x1 x3 hD hD4 hp256 hb ht hn hT hJ h10 h35 h36 h37 (by omega)
    rw [h0] at g1
    refine ⟨I', J', st, g1, ⟨⟨by rw [g5]; simp, fun q => absurd q (by rw [bld_nil]; omega), fun c hc => ?_⟩, fun c hc => ?_⟩, g3, fun q hq => ?_⟩
    · rw [bld_nil] at hc
      have : (pkT cnt fld fty 0 t n).1 = c := by omega
      rw [g4, ← this]
      exact ⟨k1, by simp, fun q => absurd q (by decide)⟩
    · rw [bld_nil] at hc
      have : (pkT cnt fld fty 0 t n).1 = c := by omega
      rw [← this]; exact h0
    · have hqp : q ≠ p := fun z => hq (by rw [z]; exact bel_self p)
      rw [g4, g5]
      exact ⟨if_neg hqp, if_neg hqp⟩
  | succ e ih =>
    intro h p t n s I J hD hp hb ht hn hT hJ h10 h35 h36 h37 hs
    have hp64 : p < 64 := Nat.lt_of_lt_of_le hp (Nat.pow_le_pow_right (n := 4) (by decide) (show h ≤ 3 by omega))
    obtain ⟨k1, k2, k3⟩ := pkT_ok cnt fld fty hn
    have hf := hT.tw.form ht k1
    have h3 := hT.tw.2.1 _ hf
    obtain ⟨I1, J1, st1, g1, g2, g3, g4, g5⟩ := @v117_head l X d I J cnt fld fty p t n s (e + 1) h D x1 x3 hD hD4 (by omega) hb ht hn hT hJ h10 h35 h36 h37 (by omega)
    have hpos : ∀ i, i < fld (4 * t + (pkT cnt fld fty (e + 1) t n).1) → 0 < fN cnt fld fty (e + 1) (4 * t + (pkT cnt fld fty (e + 1) t n).1) i := fun i hi => by
      rw [DFN_prd] at k2
      exact prd_pos (fld (4 * t + (pkT cnt fld fty (e + 1) t n).1)) 0 (by omega) i (by omega) (by omega)
    obtain ⟨I', J', st, b1, b2, b3, b4⟩ := @v117_kids l X d cnt fld fty p s e D x1 x3 (fun j => fty (3 * (4 * t + (pkT cnt fld fty (e + 1) t n).1) + j)) (fun j => dg (fN cnt fld fty (e + 1) (4 * t + (pkT cnt fld fty (e + 1) t n).1)) (fld (4 * t + (pkT cnt fld fty (e + 1) t n).1)) (pkT cnt fld fty (e + 1) t n).2 j) I hT.tw (fld (4 * t + (pkT cnt fld fty (e + 1) t n).1)) h3 (fun j hj => hT.tw.2.2 _ hf j hj)
      (fun k s' I2 J2 hk hI2 hJ2 q10 q35 q36 q37 qs => ih (h + 1) (4 * p + k + 1) _ _ s' I2 J2 (by omega) (by rw [Nat.pow_succ]; omega) (by rw [bst_kid p hp64 k (by omega), hb]) (hT.tw.2.2 _ hf k hk) (Nat.mod_lt _ (hpos k hk)) (hT.of (hI2 27 (by decide)) (hI2 28 (by decide)) (hI2 29 (by decide))) hJ2 q10 q35 q36 q37 qs)
      (fld (4 * t + (pkT cnt fld fty (e + 1) t n).1)) 0 I1 J1 (by omega) (fun r hr => g3.2.1 r (by simp only [List.mem_cons, List.not_mem_nil, or_false, not_or] at hr ⊢; exact ⟨hr.1, hr.2.2.2.1, hr.2.2.2.2, hr.2.1, hr.2.2.1⟩)) (fun e' u a b => by rw [g3.2.2.2 30 (by decide)]; exact hJ e' u a b) g1 (fun j _ hj => g2 j hj) (by omega)
    have hup := b4 p fun j _ _ => bel_up
    refine ⟨I', J', fun rr => st1 (st rr), b1, ⟨⟨by rw [hup.2, g5]; simp, fun q => absurd q (by rw [bld_nil]; omega), fun c hc => ?_⟩, fun c hc k hk => ?_⟩, g3.trans b3 (Nat.le_refl _), fun q hq => ?_⟩
    · rw [bld_nil] at hc
      have : (pkT cnt fld fty (e + 1) t n).1 = c := by omega
      rw [hup.1, g4, ← this]
      exact ⟨k1, by simp, fun q => absurd q (by decide)⟩
    · rw [bld_nil] at hc
      have : (pkT cnt fld fty (e + 1) t n).1 = c := by omega
      subst this
      rw [bld_kid]
      exact b2 k (Nat.zero_le _) hk
    · have hqp : q ≠ p := fun z => hq (by rw [z]; exact bel_self p)
      obtain ⟨z1, z2⟩ := b4 q fun j _ hj z => hq (bel_kid (by omega) z)
      rw [z1, z2, g4, g5]
      exact ⟨if_neg hqp, if_neg hqp⟩
/-- build -/
theorem c117 {e : Nat} (he : e < 5) (ht : t < 6) (hn : n < DN cnt fld fty (e + 1) t) (hT : TV I 27 28 29 cnt fld fty) (hJ : MJ cnt fld fty J) :
    ∃ I' J', mm_Call l X 117 (d + 3) [.ref 26, .int (nI t), .int (nI e), .long (lN n)] (mm_Λ, I, J) mc ms (.inl none) (mm_Λ, I', J') ∧ HT false cnt fld fty (I' 33) (I' 32) (I' 32) e (bld cnt fld fty (e + 1) t n) t 0 ∧ SF [32, 33] [] 0 I I' J J' := by
  obtain ⟨I1, r1, f1, -⟩ := @c118 l X (d + 2) I J 0 0
  have hcall := @c119 l X (d + 2) (mm_set I1 26 10 0) J 0 0 0 0 (nI t) (lN n) (by omega) (by simp [mm_set]; exact nI_0.symm)
  have hp := @SF.push (mm_set I1 26 10 0) J 0 0 (nI t) (lN n)
  have hK : SF [32, 33] [] 0 I (mm_set I1 26 10 0) J J := by
    refine ⟨fun i hi => by omega, fun r hr => ?_, fun i hi => ?_, fun _ _ => rfl⟩
    · simp only [List.mem_cons, List.not_mem_nil, or_false, not_or] at hr
      rw [mm_set_ne hr.1, f1 r hr.2.2.2.1]
    · simp only [List.mem_cons, List.not_mem_nil, or_false] at hi
      simp [mm_set, hi, f1 26 (by decide)]
  generalize hKe : mm_set I1 26 10 0 = K at hcall hp hK
  have k10 : (mm_set (mm_set (mm_set K 35 0 0) 36 0 (nI t)) 26 10 (nI (0 + 1))) 26 10 = nI (0 + 1) := by simp [mm_set]
  have k35 : (mm_set (mm_set (mm_set K 35 0 0) 36 0 (nI t)) 26 10 (nI (0 + 1))) 35 0 = nI 0 := by simp [mm_set]; exact nI_0.symm
  have k36 : (mm_set (mm_set (mm_set K 35 0 0) 36 0 (nI t)) 26 10 (nI (0 + 1))) 36 0 = nI t := by simp [mm_set]
  generalize mm_set (mm_set (mm_set K 35 0 0) 36 0 (nI t)) 26 10 (nI (0 + 1)) = K1 at hcall hp k10 k35 k36
  have hq := hK.trans (hp.mono (R' := [32, 33]) (Q' := []) (fun r hr => by simp at hr) (fun r hr => by simp at hr)) (Nat.le_refl _)
  obtain ⟨I', J', st, b1, b2, b3, -⟩ := @v117_top l X d cnt fld fty e (nI t) (lN n) (by omega) e 0 0 t n 0 K1 (mm_set J 37 0 (lN n)) (by omega) (by decide) (by decide) ht hn (hT.of (hq.2.1 27 (by decide)) (hq.2.1 28 (by decide)) (hq.2.1 29 (by decide))) (fun e' u a b => by rw [mm_set_ne (by decide)]; exact hJ e' u a b) k10 k35 k36 (by simp [mm_set]) (by omega)
  refine ⟨I', J', b117_0 r1 (b117_4 (I1 := K1) (J1 := mm_set J 37 0 (lN n)) (by rw [hKe]; exact hcall) (st (b117_16 (fun _ => b117_78) (fun q => absurd (by rw [b1]; decide) q)))), b2, hq.trans b3 (Nat.le_refl _)⟩
end BUILD
