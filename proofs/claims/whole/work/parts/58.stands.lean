/-! ===== how many values a partial value stands for ===== -/
def pT (cnt fld fty : Nat → Nat) : Nat → TR → Nat → Nat
  | 0, τ, t => if τ [] = 0 then DN cnt fld fty 1 t else 1
  | n + 1, τ, t => if τ [] = 0 then DN cnt fld fty (n + 2) t else prd (fun k => pT cnt fld fty n (tkid τ k) (kty fty τ t k)) (fl fld τ t) 0
theorem capmul2 {a : Nat} (b : Nat) (ha : a ≤ mny) : min (a * min b mny) mny = min (a * b) mny := by
  rw [Nat.mul_comm, capmul, Nat.mul_comm]
/-- the product over the holes of a row -/
def hv (cnt fld fty : Nat → Nat) (A : Nat → Int32) (ty : Nat → Nat) (most p : Nat) : Nat := if A p = -2 then DN cnt fld fty (most + 1 - bst 16 p) (ty p) else 1
theorem hv_le (cnt fld fty : Nat → Nat) (A : Nat → Int32) (ty : Nat → Nat) (most p : Nat) : hv cnt fld fty A ty most p ≤ mny := by
  unfold hv
  split
  · exact DN_le _ _ _ _ _
  · decide
section STANDS
variable {l : Launch} {X : Nat × (Nat → Int32)} {d : Nat} {I I' : Nat → Nat → Int32} {J J' : Nat → Nat → Int64} {mc ms : Nat} {cnt fld fty : Nat → Nat} {t e n h m p : Nat} {τ : TR}
theorem c94_kids {w0 m0 n' : Nat} {g : Nat → Nat} (hp : p < 256) (h3 : m0 ≤ 3) (hn : I 16 p = nI m0)
    (hIH : ∀ k, k < m0 → mm_Call l X 94 w0 [.ref 13, .int (nI (4 * p + k + 1)), .int (nI n')] (mm_Λ, I, J) 0 0 (.inl (some (.long (lN (min (g k) mny))))) (mm_Λ, I, J)) :
    ∀ (m k acc : Nat), k + m = m0 → acc ≤ mny → mm_Run l X 94 (w0 + 1) 35 [.ref 13, .int (nI p), .int (nI (n' + 1)), .long (lN acc), .null, .int (nI k)] [] (mm_Λ, I, J) mc ms (.inl (some (.long (lN (min (acc * prd g m k) mny))))) (mm_Λ, I, J)
  | 0, k, acc, hk, ha => by
    rw [prd, Nat.mul_one, Nat.min_eq_left ha]
    exact b94_35 (ix_in hp (by omega)) (fun _ => b94_70) (fun z => absurd (by rw [ix_cl (by omega), hn]; exact nI_le (by omega) (by omega)) z)
  | m + 1, k, acc, hk, ha => by
    have rr := c94_kids hp h3 hn hIH m (k + 1) (min (acc * g k) mny) (by omega) (Nat.min_le_right _ _)
    rw [capmul, Nat.mul_assoc] at rr
    have r28 := @c28 l X w0 I J 0 0 (lN acc) (lN (min (g k) mny))
    rw [cpI_N ha (Nat.min_le_right _ _), capmul2 _ ha] at r28
    refine b94_35 (ix_in hp (by omega)) (fun z => absurd z (by rw [ix_cl (by omega), hn]; exact nI_ge (by omega) (by omega))) (fun _ => b94_46 (c45 p k) (b94_54 (I1 := I) (J1 := J) (by rw [nI_pred]; exact hIH k (by omega)) (b94_60 r28 (b94_63 ?_))))
    rw [nI_1]
    exact rr
/-- waysToFill -/
theorem c94 (hT : TI cnt fld fty I J) : ∀ (n p t : Nat) (τ : TR), n ≤ 4 → p < 4 ^ (4 - n) → t < 6 → HT true cnt fld fty (I 14) (I 15) (I 16) n τ t p →
    mm_Call l X 94 (d + n + 1) [.ref 13, .int (nI p), .int (nI n)] (mm_Λ, I, J) mc ms (.inl (some (.long (lN (min (pT cnt fld fty n τ t) mny))))) (mm_Λ, I, J) := by
  intro n
  induction n generalizing mc ms with
  | zero =>
    intro p t τ hn hp ht h
    have hp6 := pw4 (n := 0) (by omega) hp
    obtain ⟨h1, h2, h3, h4, h5⟩ := h.u hT.1.tw ht
    refine b94_0 (ix_in hp6 (by omega)) (fun z => ?_) (fun z => ?_)
    · rw [ix_cl (by omega), h2] at z
      rw [pT, if_neg (fun w => z (cod_hole w))]
      exact b94_26 (fun _ => b94_70) (fun z => absurd (by decide) z)
    · rw [ix_cl (by omega), h2] at z
      have h0 : τ [] = 0 := Decidable.byContradiction fun w => z (h.cod_ne hT.1.tw ht w)
      have r := @c27 l X (d + 0) I J 0 0 t 0 ht (by omega)
      rw [(hT.2.2.1 0 t (by omega) ht).1, DT_N] at r
      rw [pT, if_pos h0, Nat.min_eq_left (DN_le _ _ _ _ _)]
      exact b94_11 (I1 := I) (J1 := J) (ix_in hp6 (by omega)) (by rw [ix_cl (by omega), h1]; exact r) b94_25
  | succ n ih =>
    intro p t τ hn hp ht h
    have hp6 := pw4 hn hp
    obtain ⟨h1, h2, h3, h4, h5⟩ := h.u hT.1.tw ht
    refine b94_0 (ix_in hp6 (by omega)) (fun z => ?_) (fun z => ?_)
    · rw [ix_cl (by omega), h2] at z
      rw [pT, if_neg (fun w => z (cod_hole w))]
      have rr := @c94_kids l X I J mc ms p (d + n + 1) (fl fld τ t) n (fun k => pT cnt fld fty n (tkid τ k) (kty fty τ t k)) hp6 h4 (h3 rfl)
        (fun k hk => by
          obtain ⟨k0, k6, kH⟩ := h5 k hk
          exact ih _ _ _ (by omega) (pw4k hn (by omega) hp) k6 kH) (fl fld τ t) 0 1 (by omega) (by decide)
      rw [nI_0, Nat.one_mul] at rr
      exact b94_26 (fun z => absurd z (nI_nle (by omega) (by omega))) (fun _ => b94_32 rr)
    · rw [ix_cl (by omega), h2] at z
      have h0 : τ [] = 0 := Decidable.byContradiction fun w => z (h.cod_ne hT.1.tw ht w)
      have r := @c27 l X (d + (n + 1)) I J 0 0 t (n + 1) ht (by omega)
      rw [(hT.2.2.1 (n + 1) t (by omega) ht).1, DT_N] at r
      rw [pT, if_pos h0, Nat.min_eq_left (DN_le _ _ _ _ _)]
      exact b94_11 (I1 := I) (J1 := J) (ix_in hp6 (by omega)) (by rw [ix_cl (by omega), h1]; exact r) b94_25
/-- standsFor -/
theorem c93 (hT : TI cnt fld fty I J) (hn : n ≤ 4) (ht : t < 6) (h : HT true cnt fld fty (I 14) (I 15) (I 16) n τ t 0) :
    mm_Call l X 93 (d + n + 2) [.ref 13, .int (nI n)] (mm_Λ, I, J) mc ms (.inl (some (.long (lN (min (pT cnt fld fty n τ t) mny))))) (mm_Λ, I, J) := by
  have r := @c94 l X d I J 0 0 cnt fld fty hT n 0 t τ hn (Nat.pos_of_ne_zero (by exact Nat.ne_of_gt (Nat.pow_pos (by decide)))) ht h
  rw [nI_0] at r
  exact b93_0 r b93_6
/-- standsFor of the reference -/
theorem c140_loop {most : Nat} {ty : Nat → Nat} (hm : most ≤ 4) (hJ : MJ cnt fld fty J) (h24 : I 26 24 = nI most) (hh : ∀ q, q < 256 → I 32 q = -2 → I 33 q = nI (ty q) ∧ ty q < 6 ∧ bst 16 q ≤ most) : ∀ (n p acc : Nat), p + n = 256 → acc ≤ mny →
    mm_Run l X 140 (d + 1) 4 [.ref 26, .long (lN acc), .null, .int (nI p)] [] (mm_Λ, I, J) mc ms (.inl (some (.long (lN (min (acc * prd (hv cnt fld fty (I 32) ty most) n p) mny))))) (mm_Λ, I, J)
  | 0, p, acc, hp, ha => by
    rw [prd, Nat.mul_one, Nat.min_eq_left ha]
    exact b140_4 (fun _ => b140_63) (fun z => absurd (nI_le (a := 256) (by omega) (by omega)) z)
  | n + 1, p, acc, hp, ha => by
    have rr := c140_loop hm hJ h24 hh n (p + 1) (min (acc * hv cnt fld fty (I 32) ty most p) mny) (by omega) (Nat.min_le_right _ _)
    rw [capmul, Nat.mul_assoc] at rr
    refine b140_4 (fun z => absurd z (nI_ge (b := 256) (by omega) (by omega))) (fun _ => b140_11 (ix_in (by omega) (by omega)) (fun z => ?_) (fun z => ?_))
    · rw [ix_cl (by omega)] at z
      rw [show hv cnt fld fty (I 32) ty most p = 1 by unfold hv; rw [if_neg z]] at rr
      rw [Nat.mul_one, Nat.min_eq_left ha] at rr
      refine b140_55 (b140_56 ?_)
      rw [nI_1, prd, show hv cnt fld fty (I 32) ty most p = 1 by unfold hv; rw [if_neg z]]
      exact rr
    · rw [ix_cl (by omega)] at z
      have z' := Decidable.not_not.mp z
      obtain ⟨g1, g2, g3⟩ := hh p (by omega) z'
      have ev : hv cnt fld fty (I 32) ty most p = DN cnt fld fty (most + 1 - bst 16 p) (ty p) := by unfold hv; rw [if_pos z']
      have r108 := @c108 l X d I J 0 0 acc (DN cnt fld fty (most + 1 - bst 16 p) (ty p)) ha (DN_le _ _ _ _ _)
      have q22 := @b140_22 l X d I J (lN acc) (nI p) mc ms (.inl (some (.long (lN (min (acc * prd (hv cnt fld fty (I 32) ty most) (n + 1) p) mny))))) (mm_Λ, I, J)
      rw [ix_cl (by omega), g1, h24, jx6] at q22
      have q45 := @b140_45 l X d I J (lN acc) (nI p) (nI (bst 16 p)) (nI (6 * ty p + most)) (lN acc) mc ms (.inl (some (.long (lN (min (acc * prd (hv cnt fld fty (I 32) ty most) (n + 1) p) mny))))) (mm_Λ, I, J)
      rw [nI_sub (by omega), nI_1, ix_cl (by omega), show 6 * ty p + most - bst 16 p + 1 = 6 * ty p + (most + 1 - bst 16 p) by omega, hJ _ _ (by omega) g2] at q45
      refine q22 (ix_in (by omega) (by omega)) (c120 p (by omega)) (q45 (ix_in (by omega) (by omega)) r108 (b140_52 (b140_56 ?_)))
      rw [nI_1, prd, ← ev]
      exact rr
theorem c140 {most : Nat} {ty : Nat → Nat} (hm : most ≤ 4) (hJ : MJ cnt fld fty J) (h24 : I 26 24 = nI most) (hh : ∀ q, q < 256 → I 32 q = -2 → I 33 q = nI (ty q) ∧ ty q < 6 ∧ bst 16 q ≤ most) :
    mm_Call l X 140 (d + 1) [.ref 26] (mm_Λ, I, J) mc ms (.inl (some (.long (lN (min (prd (hv cnt fld fty (I 32) ty most) 256 0) mny))))) (mm_Λ, I, J) := by
  have rr := @c140_loop l X d I J mc ms cnt fld fty most ty hm hJ h24 hh 256 0 1 (by omega) (by decide)
  rw [Nat.one_mul, nI_0] at rr
  exact b140_0 rr
end STANDS
