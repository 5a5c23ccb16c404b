/-! ===== along a path ===== -/
theorem pz_facts : ∀ p, p < 256 → isPb p = true → bst 16 p = stp 4 p ∧ stp 4 p ≤ 4 ∧ p < 4 ^ stp 4 p ∧ (∀ i, i < stp 4 p → p / 4 ^ i % 4 ≠ 0) ∧ p / 4 ^ stp 4 p = 0 := by decide +kernel
theorem shr_facts : ∀ p, p < 256 → ∀ s, s < 5 → nI p >>> ((2 * nI s) &&& 31) = nI (p / 4 ^ s) := by decide +kernel
/-- along the last s steps of p: 0 nothing there, 1 got there, 2 + q a hole at q on the way; what is there, its type -/
def wk (fld fty : Nat → Nat) (p : Nat) : Nat → TR → Nat → Nat × TR × Nat
  | 0, τ, t => (1, τ, t)
  | s + 1, τ, t => if τ [] = 0 then (p / 4 ^ (s + 1) + 2, τ, t) else if fl fld τ t < p / 4 ^ s % 4 then (0, τ, t) else wk fld fty p s (tkid τ (p / 4 ^ s % 4 - 1)) (kty fty τ t (p / 4 ^ s % 4 - 1))
/-- the class's code of an answer -/
def cdA : Nat → Int32
  | 0 => -2
  | 1 => -1
  | q + 2 => nI q
def gA (p : Nat) : Nat → Int32
  | 0 => -1
  | 1 => nI p
  | q + 2 => nI q
theorem p4 (p s : Nat) : p / 4 ^ s = 4 * (p / 4 ^ (s + 1)) + p / 4 ^ s % 4 := by
  rw [Nat.pow_succ, ← Nat.div_div_eq_div_mul]
  omega
theorem dg1 {u : Nat} (h : u % 4 ≠ 0) : 1 ≤ u ∧ (u - 1) % 4 = u % 4 - 1 ∧ (u - 1) / 4 = u / 4 := by omega
section WALK
variable {l : Launch} {X : Nat × (Nat → Int32)} {d : Nat} {I I' : Nat → Nat → Int32} {J : Nat → Nat → Int64} {mc ms : Nat} {cnt fld fty : Nat → Nat} {p t c n : Nat} {b : Bool} {T A N : Nat → Int32} {τ : TR}
theorem cod_hole (h : τ [] = 0) : cod τ = -2 := by rw [cod, h]
theorem cod_node (h : τ [] = c + 1) : cod τ = nI c := by rw [cod, h]
theorem nI_ne2 {c : Nat} (h : c < 2 ^ 31) : ¬ nI c = -2 := fun q => absurd (show nI c < 0 by rw [q]; decide) (nI_pos h)
theorem nI_ne1 {c : Nat} (h : c < 2 ^ 31) : ¬ nI c = -1 := fun q => absurd (show nI c < 0 by rw [q]; decide) (nI_pos h)
theorem HT.small (hW : TW cnt fld fty) (ht : t < 6) (h : HT b cnt fld fty T A N n τ t p) (hc : τ [] = c + 1) : c < 4 := by
  have := (h.hd.2.2 c hc).1
  have := hW.1 t ht
  omega
theorem HT.cod_ne (hW : TW cnt fld fty) (ht : t < 6) (h : HT b cnt fld fty T A N n τ t p) (h0 : ¬ τ [] = 0) : ¬ cod τ = -2 := by
  obtain ⟨c, hc⟩ : ∃ c, τ [] = c + 1 := ⟨τ [] - 1, by omega⟩
  have := h.small hW ht hc
  rw [cod_node hc]
  exact nI_ne2 (by omega)
/-- what a walk finds -/
theorem wk_ok (hW : TW cnt fld fty) : ∀ (s n : Nat) (τ : TR) (t : Nat), t < 6 → (∀ i, i < s → p / 4 ^ i % 4 ≠ 0) → HT b cnt fld fty T A N n τ t (p / 4 ^ s) →
    ((wk fld fty p s τ t).1 = 1 → s ≤ n ∧ (wk fld fty p s τ t).2.2 < 6 ∧ HT b cnt fld fty T A N (n - s) (wk fld fty p s τ t).2.1 (wk fld fty p s τ t).2.2 p) ∧ ∀ q, (wk fld fty p s τ t).1 = q + 2 → ∃ i, i < s ∧ q = p / 4 ^ (i + 1)
  | 0, n, τ, t, ht, hd, h => by
    rw [Nat.pow_zero, Nat.div_one] at h
    exact ⟨fun _ => ⟨Nat.zero_le _, ht, h⟩, fun q hq => by simp [wk] at hq⟩
  | s + 1, n, τ, t, ht, hd, h => by
    rw [wk]
    by_cases h0 : τ [] = 0
    · rw [if_pos h0]
      exact ⟨fun q => by simp at q, fun q hq => ⟨s, by omega, by simpa using hq.symm⟩⟩
    · rw [if_neg h0]
      by_cases h1 : fl fld τ t < p / 4 ^ s % 4
      · rw [if_pos h1]
        exact ⟨fun q => by simp at q, fun q hq => by simp at hq⟩
      · rw [if_neg h1]
        have hs := hd s (by omega)
        obtain ⟨k0, k6, kH⟩ := (h.u hW ht).2.2.2.2 (p / 4 ^ s % 4 - 1) (by omega)
        rw [show 4 * (p / 4 ^ (s + 1)) + (p / 4 ^ s % 4 - 1) + 1 = p / 4 ^ s by have := p4 p s; omega] at kH
        obtain ⟨r1, r2⟩ := wk_ok hW s (n - 1) _ _ k6 (fun i hi => hd i (by omega)) kH
        refine ⟨fun q => ?_, fun q hq => ?_⟩
        · obtain ⟨z1, z2, z3⟩ := r1 q
          rw [show n - 1 - s = n - (s + 1) by omega] at z3
          exact ⟨by omega, z2, z3⟩
        · obtain ⟨i, hi, e⟩ := r2 q hq
          exact ⟨i, by omega, e⟩
/-- goAlong -/
theorem c84_loop (hW : TW cnt fld fty) (hp : p < 256) : ∀ (s n : Nat) (τ : TR) (t : Nat), s ≤ 4 → t < 6 → (∀ i, i < s → p / 4 ^ i % 4 ≠ 0) → HT true cnt fld fty (I 14) (I 15) (I 16) n τ t (p / 4 ^ s) →
    mm_Run l X 84 (d + 1) 5 [.ref 13, .int (nI p), .int (nI s), .null, .null] [] (mm_Λ, I, J) mc ms (.inl (some (.int (gA p (wk fld fty p s τ t).1)))) (mm_Λ, I, J)
  | 0, n, τ, t, hs, ht, hd, h => b84_5 (fun _ => b84_58) (fun q => absurd (by decide) q)
  | s + 1, n, τ, t, hs, ht, hd, h => by
    obtain ⟨h1, h2, h3, h4, h5⟩ := h.u hW ht
    have hpd : p / 4 ^ (s + 1) < 256 := Nat.lt_of_le_of_lt (Nat.div_le_self _ _) hp
    have hpd' : p / 4 ^ s < 256 := Nat.lt_of_le_of_lt (Nat.div_le_self _ _) hp
    have q9 := @b84_9 l X d I J (nI p) (nI (s + 1)) mc ms (.inl (some (.int (gA p (wk fld fty p (s + 1) τ t).1)))) (mm_Λ, I, J)
    rw [nI_pred, shr_facts p hp (s + 1) (by omega), shr_facts p hp s (by omega), ix_cl (by omega), h2] at q9
    refine b84_5 (fun q => absurd q (nI_nle (by omega) (by omega))) (fun _ => q9 (ix_in hpd (by omega)) (fun z => ?_) (fun z => ?_))
    · have h0 : ¬ τ [] = 0 := fun w => z (cod_hole w)
      rw [wk, if_neg h0]
      have hds := hd s (by omega)
      refine b84_37 (ix_in hpd (by omega)) (fun z1 => b84_52 ?_) (fun z1 => ?_)
      · rw [nI_and3 _ hpd', ix_cl (by omega), h3 rfl] at z1
        have hle : ¬ fl fld τ t < p / 4 ^ s % 4 := fun w => nI_ge w (by omega) z1
        rw [if_neg hle, kx_dec]
        obtain ⟨k0, k6, kH⟩ := h5 (p / 4 ^ s % 4 - 1) (by omega)
        rw [show 4 * (p / 4 ^ (s + 1)) + (p / 4 ^ s % 4 - 1) + 1 = p / 4 ^ s by have := p4 p s; omega] at kH
        exact c84_loop hW hp s (n - 1) _ _ (by omega) k6 (fun i hi => hd i (by omega)) kH
      · rw [nI_and3 _ hpd', ix_cl (by omega), h3 rfl] at z1
        have hle : fl fld τ t < p / 4 ^ s % 4 := Nat.lt_of_not_le fun w => z1 (nI_le w (by omega))
        rw [if_pos hle]
        exact b84_50
    · have h0 : τ [] = 0 := Decidable.byContradiction fun w => z (h.cod_ne hW ht w)
      rw [wk, if_pos h0]
      exact b84_35
theorem c84 (hW : TW cnt fld fty) (hp : isPb p = true) (ht : t < 6) (h : HT true cnt fld fty (I 14) (I 15) (I 16) n τ t 0) :
    mm_Call l X 84 (d + 1) [.ref 13, .int (nI p)] (mm_Λ, I, J) mc ms (.inl (some (.int (gA p (wk fld fty p (stp 4 p) τ t).1)))) (mm_Λ, I, J) := by
  have hp6 := isPb_lt hp
  obtain ⟨f1, f2, f3, f4, f5⟩ := pz_facts p hp6 hp
  exact b84_0 (c85 p hp6) (b84_4 (c84_loop hW hp6 (stp 4 p) n τ t f2 ht f4 (by rw [f5]; exact h)))
/-- stepOf -/
theorem c136_loop {i m : Nat} (hp : p < 256) : ∀ (r j : Nat), j + r + (i + 1) = m → m ≤ 4 → (∀ k, k < m → p / 4 ^ k % 4 ≠ 0) → mm_Run l X 136 (d + 1) 7 [.int (nI p), .int (nI i), .int (nI (p / 4 ^ j)), .int (nI (r + i + 1))] [] (mm_Λ, I, J) mc ms (.inl (some (.int (nI (p / 4 ^ (j + r) % 4 - 1))))) (mm_Λ, I, J)
  | 0, j, hm, h4, hd => by
    have hj := hd j (by omega)
    have hpd : p / 4 ^ j < 256 := Nat.lt_of_le_of_lt (Nat.div_le_self _ _) hp
    have q := @b136_26 l X d I J (nI p) (nI i) (nI (p / 4 ^ j)) (nI (0 + i + 1)) mc ms
    rw [nI_m1 (dg1 hj).1, nI_rem4 (by omega), (dg1 hj).2.1] at q
    exact b136_7 (fun _ => q) (fun z => absurd (by rw [nI_1]; exact nI_le (by omega) (by omega)) z)
  | r + 1, j, hm, h4, hd => by
    have hj := hd j (by omega)
    have hpd : p / 4 ^ j < 256 := Nat.lt_of_le_of_lt (Nat.div_le_self _ _) hp
    have rr := c136_loop (i := i) (m := m) hp r (j + 1) (by omega) h4 hd
    refine b136_7 (fun z => absurd z (by rw [nI_1]; exact nI_ge (by omega) (by omega))) (fun _ => b136_14 ?_)
    rw [nI_m1 (dg1 hj).1, nI_div4 (by omega), show (p / 4 ^ j - 1) / 4 = p / 4 ^ (j + 1) by rw [Nat.pow_succ, ← Nat.div_div_eq_div_mul]; exact (dg1 hj).2.2, kx_dec, show kx (r + 1 + i + 1) = nI (r + i + 1) by show nI (r + 1 + i) = _; congr 1; omega, show j + (r + 1) = j + 1 + r by omega]
    exact rr
theorem c136 {i : Nat} (hp : isPb p = true) (hi : i < stp 4 p) : mm_Call l X 136 (d + 1) [.int (nI p), .int (nI i)] (mm_Λ, I, J) mc ms (.inl (some (.int (nI (p / 4 ^ (stp 4 p - 1 - i) % 4 - 1))))) (mm_Λ, I, J) := by
  have hp6 := isPb_lt hp
  obtain ⟨f1, f2, f3, f4, f5⟩ := pz_facts p hp6 hp
  have rr := @c136_loop l X d I J mc ms p i (stp 4 p) hp6 (stp 4 p - 1 - i) 0 (by omega) f2 f4
  rw [Nat.pow_zero, Nat.div_one, Nat.zero_add, show stp 4 p - 1 - i + i + 1 = stp 4 p by omega, ← f1] at rr
  rw [← f1]
  exact b136_0 (c120 p (by omega)) (b136_6 rr)
/-- go -/
theorem c135_loop (hT : TV I 27 28 29 cnt fld fty) (hp : isPb p = true) : ∀ (s i n : Nat) (τ : TR) (t : Nat), s + i = stp 4 p → t < 6 → HT false cnt fld fty (I 33) (I 32) (I 32) n τ t (p / 4 ^ s) →
    mm_Run l X 135 (d + 2) 10 [.ref 26, .int (nI p), .int (nI (p / 4 ^ s)), .int (nI (stp 4 p)), .int (nI i), .null] [] (mm_Λ, I, J) mc ms (.inl (some (.int (nI (wk fld fty p s τ t).1)))) (mm_Λ, I, J)
  | 0, i, n, τ, t, hs, ht, h => by
    obtain ⟨f1, f2, f3, f4, f5⟩ := pz_facts p (isPb_lt hp) hp
    exact b135_10 (fun _ => b135_81) (fun q => absurd (nI_le (by omega) (by omega)) q)
  | s + 1, i, n, τ, t, hs, ht, h => by
    have hp6 := isPb_lt hp
    obtain ⟨f1, f2, f3, f4, f5⟩ := pz_facts p hp6 hp
    obtain ⟨h1, h2, -, h4, h5⟩ := h.u hT.tw ht
    have hpd : p / 4 ^ (s + 1) < 256 := Nat.lt_of_le_of_lt (Nat.div_le_self _ _) hp6
    have hds := f4 s (by omega)
    refine b135_10 (fun q => absurd q (nI_ge (by omega) (by omega))) (fun _ => b135_16 (ix_in hpd (by omega)) (fun z => ?_) (fun z => ?_))
    · rw [ix_cl (by omega), h2] at z
      have h0 : ¬ τ [] = 0 := fun w => z (cod_hole w)
      obtain ⟨c, hc⟩ : ∃ c, τ [] = c + 1 := ⟨τ [] - 1, by omega⟩
      have hf := hT.tw.form ht (h.hd.2.2 c hc).1
      have q37 := @b135_37 l X (d + 1) I J (nI p) (nI (p / 4 ^ (s + 1))) (nI (stp 4 p)) (nI i) (nI (p / 4 ^ (stp 4 p - 1 - i) % 4 - 1)) mc ms (.inl (some (.int (nI (wk fld fty p (s + 1) τ t).1)))) (mm_Λ, I, J)
      have efl : fld (4 * t + c) = fl fld τ t := by rw [fl, hc]
      rw [ix_cl (by omega), h1, h2, cod_node hc, jx4, ix_cl (by omega), (hT.2.1 _ hf).1, efl, show stp 4 p - 1 - i = s by omega] at q37
      refine b135_31 (c136 hp (by omega)) ?_
      rw [show stp 4 p - 1 - i = s by omega]
      refine q37 (ix_in hpd (by omega)) (ix_in hpd (by omega)) (ix_in hf (by omega)) (fun z1 => b135_66 ?_) (fun z1 => ?_)
      · have hle : ¬ fl fld τ t < p / 4 ^ s % 4 := fun w => nI_nlt (a := p / 4 ^ s % 4 - 1) (b := fl fld τ t) (by omega) (by omega) z1
        rw [wk, if_neg h0, if_neg hle, jx4, nI_1, nI_1]
        obtain ⟨k0, k6, kH⟩ := h5 (p / 4 ^ s % 4 - 1) (by omega)
        have e4 : 4 * (p / 4 ^ (s + 1)) + (p / 4 ^ s % 4 - 1) + 1 = p / 4 ^ s := by have := p4 p s; omega
        rw [e4] at kH ⊢
        exact c135_loop hT hp s (i + 1) (n - 1) _ _ (by omega) k6 kH
      · have hle : fl fld τ t < p / 4 ^ s % 4 := Nat.lt_of_not_le fun w => z1 (nI_lt (by omega) (by omega))
        rw [wk, if_neg h0, if_pos hle]
        exact b135_64
    · rw [ix_cl (by omega), h2] at z
      have h0 : τ [] = 0 := Decidable.byContradiction fun w => z (h.cod_ne hT.tw ht w)
      have q := @b135_27 l X (d + 1) I J (nI p) (nI (p / 4 ^ (s + 1))) (nI (stp 4 p)) (nI i) mc ms
      rw [show (2 : Int32) = nI 2 from rfl, nI_add, Nat.add_comm 2] at q
      rw [wk, if_pos h0]
      exact q
theorem c135 (hT : TV I 27 28 29 cnt fld fty) (hp : isPb p = true) (ht : t < 6) (h : HT false cnt fld fty (I 33) (I 32) (I 32) n τ t 0) :
    mm_Call l X 135 (d + 2) [.ref 26, .int (nI p)] (mm_Λ, I, J) mc ms (.inl (some (.int (nI (wk fld fty p (stp 4 p) τ t).1)))) (mm_Λ, I, J) := by
  obtain ⟨f1, f2, f3, f4, f5⟩ := pz_facts p (isPb_lt hp) hp
  have r := @c135_loop l X d I J mc ms cnt fld fty p hT hp (stp 4 p) 0 n τ t (by omega) ht (by rw [f5]; exact h)
  rw [f5] at r
  rw [nI_0] at r
  have r2 := @c120 l X (d + 1) I J 0 0 p (by have := isPb_lt hp; omega)
  rw [f1] at r2
  exact b135_0 r2 (b135_6 r)
end WALK
