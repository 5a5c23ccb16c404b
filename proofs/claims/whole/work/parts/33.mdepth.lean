/-! ===== the reference's table of depths ===== -/
section MDEPTH
variable {l : Launch} {X : Nat × (Nat → Int32)} {d : Nat} {I : Nat → Nat → Int32} {J : Nat → Nat → Int64} {mc ms : Nat} {cnt fld fty : Nat → Nat}
theorem c109 (a b : Int64) : mm_Call l X 109 d [.long a, .long b] (mm_Λ, I, J) mc ms (.inl (some (.long (csI a b)))) (mm_Λ, I, J) := by
  unfold csI
  refine b109_0 (fun h => ?_) (fun h => ?_)
  · rw [if_neg (Int64.not_lt.mpr ((lgcle _ _).mp h))]
    exact b109_16 b109_19
  · rw [if_pos (Int64.not_le.mp (fun q => h ((lgcle _ _).mpr q)))]
    exact b109_10 b109_19
theorem c108 {a b : Nat} (ha : a ≤ mny) (hb : b ≤ mny) : mm_Call l X 108 d [.long (lN a), .long (lN b)] (mm_Λ, I, J) mc ms (.inl (some (.long (lN (min (a * b) mny))))) (mm_Λ, I, J) := by
  rw [← cpI_N ha hb]
  refine b108_0 (fun h => ?_) (fun h => b108_6 (fun h1 => ?_) (fun h1 => ?_))
  · have hm := mny_lt
    have h0 : a = 0 := (gL_eq (by omega) (by omega)).mp (((lgc0 _ _).mp h).trans lit_0)
    subst h0
    rw [cpI_N ha hb, Nat.zero_mul, Nat.zero_min]
    exact b108_12
  · have hb0 : ¬ lN b = 0 := fun q => h1 ((lgc0 _ _).mpr q)
    unfold cpI
    rw [if_neg hb0]
    refine b108_14 hb0 (fun h2 => ?_) (fun h2 => ?_)
    · rw [if_pos ((lgcle _ _).mp h2)]
      exact b108_30 b108_33
    · rw [if_neg (fun q => h2 ((lgcle _ _).mpr q))]
      exact b108_24 b108_33
  · have hb0 : lN b = 0 := (lgc0 _ _).mp (Decidable.not_not.mp h1)
    unfold cpI
    rw [if_pos hb0]
    exact b108_12
theorem jx (t c k : Nat) : 12 * nI t + 3 * nI c + nI k = nI (3 * (4 * t + c) + k) := by
  rw [show (12 : Int32) = nI 12 from rfl, show (3 : Int32) = nI 3 from rfl, nI_mul, nI_mul, nI_add, nI_add]
  congr 1; omega
theorem jx4 (t c : Nat) : 4 * nI t + nI c = nI (4 * t + c) := by
  rw [show (4 : Int32) = nI 4 from rfl, nI_mul, nI_add]
theorem jx6 (t c : Nat) : 6 * nI t + nI c = nI (6 * t + c) := by
  rw [show (6 : Int32) = nI 6 from rfl, nI_mul, nI_add]
theorem c107 (hT : TV I 27 28 29 cnt fld fty) {t c k : Nat} (hf : 4 * t + c < 24) (hk : k < fld (4 * t + c)) : mm_Call l X 107 d [.ref 26, .int (nI t), .int (nI c), .int (nI k)] (mm_Λ, I, J) mc ms (.inl (some (.int (nI (fty (3 * (4 * t + c) + k)))))) (mm_Λ, I, J) := by
  have hk3 : k < 3 := Nat.lt_of_lt_of_le hk (hT.2.1 _ hf).2
  have h := @b107_0 l X d I J (nI t) (nI c) (nI k) mc ms (by rw [jx]; exact ix_in (by omega) (by omega))
  rw [jx, ix_cl (by omega), (hT.2.2 _ hf k hk).1] at h
  exact h
theorem c106_loop (hT : TV I 27 28 29 cnt fld fty) {t c e : Nat} (hf : 4 * t + c < 24) (he : e < 6) (g : Nat → Nat) (hg : ∀ u, u < 6 → J 30 (6 * u + e) = lN (g u) ∧ g u ≤ mny) : ∀ (n j acc : Nat), j + n = fld (4 * t + c) → acc ≤ mny →
    mm_Run l X 106 (d + 1) 6 [.ref 26, .int (nI t), .int (nI c), .int (nI e), .long (lN acc), .null, .int (nI j)] [] (mm_Λ, I, J) mc ms (.inl (some (.long (lN (foldFN (fun j => g (fty (3 * (4 * t + c) + j))) n j acc))))) (mm_Λ, I, J)
  | 0, j, acc, hj, ha => by
    have h3 := (hT.2.1 _ hf).2
    refine b106_6 (by rw [jx4]; exact ix_in (by omega) (by omega)) (fun _ => b106_52) (fun h => ?_)
    rw [jx4, ix_cl (by omega), (hT.2.1 _ hf).1] at h
    exact absurd (nI_le (by omega) (by omega)) h
  | n + 1, j, acc, hj, ha => by
    have h3 := (hT.2.1 _ hf).2
    have h6 := (hT.2.2 _ hf j (by omega)).2
    have hv := hg _ h6
    refine b106_6 (by rw [jx4]; exact ix_in (by omega) (by omega)) (fun h => ?_) (fun _ => ?_)
    · rw [jx4, ix_cl (by omega), (hT.2.1 _ hf).1] at h
      exact absurd h (nI_ge (by omega) (by omega))
    · have hc : mm_Call l X 108 d [.long (lN acc), .long (J 30 (6 * nI (fty (3 * (4 * t + c) + j)) + nI e).toNatClampNeg)] (mm_Λ, I, J) 0 0 (.inl (some (.long (lN (min (acc * g (fty (3 * (4 * t + c) + j))) mny))))) (mm_Λ, I, J) := by
        rw [jx6, ix_cl (by omega), hv.1]
        exact c108 ha hv.2
      refine b106_21 (c107 hT hf (by omega)) (b106_37 (by rw [jx6]; exact ix_in (by omega) (by omega)) hc (b106_44 ?_))
      rw [nI_1]
      exact c106_loop hT hf he g hg n (j + 1) _ (by omega) (Nat.min_le_right _ _)
/-- deepWith -/
theorem c106 (hT : TV I 27 28 29 cnt fld fty) {t c e : Nat} (hf : 4 * t + c < 24) (he : e < 6) (hJ : ∀ u, u < 6 → J 30 (6 * u + e) = lN (DN cnt fld fty e u)) :
    mm_Call l X 106 (d + 1) [.ref 26, .int (nI t), .int (nI c), .int (nI e)] (mm_Λ, I, J) mc ms (.inl (some (.long (lN (DFN cnt fld fty e (4 * t + c)))))) (mm_Λ, I, J) := by
  have h := @c106_loop l X d I J mc ms cnt fld fty hT t c e hf he (DN cnt fld fty e) (fun u hu => ⟨hJ u hu, DN_le _ _ _ _ _⟩) (fld (4 * t + c)) 0 1 (by omega) (by decide)
  rw [nI_0] at h
  exact b106_0 h
/-- the reference's table is right up to depth e, and there up to type t -/
def MDone (cnt fld fty : Nat → Nat) (J0 : Nat → Nat → Int64) (e t : Nat) (J : Nat → Nat → Int64) : Prop :=
  (∀ p, p ≠ 30 → J p = J0 p) ∧ ∀ e' t', e' < 6 → t' < 6 → (e' < e ∨ (e' = e ∧ t' < t)) → J 30 (6 * t' + e') = lN (DN cnt fld fty e' t')
theorem MDone.set {J0 : Nat → Nat → Int64} {e t : Nat} (h : MDone cnt fld fty J0 e t J) (ht : t < 6) (he : e < 6) : MDone cnt fld fty J0 e (t + 1) (mm_set J 30 (6 * t + e) (lN (DN cnt fld fty e t))) := by
  refine ⟨fun p hp => by rw [mm_set_ne hp]; exact h.1 p hp, fun e' t' he' ht' hd => ?_⟩
  rw [mm_set_eq]
  dsimp only
  by_cases hh : e' = e ∧ t' = t
  · obtain ⟨rfl, rfl⟩ := hh
    rw [if_pos rfl]
  · rw [if_neg (by omega)]
    exact h.2 e' t' he' ht' (by omega)
theorem c105_sum (hT : TV I 27 28 29 cnt fld fty) {t e : Nat} (ht : t < 6) (he : e < 5) (hJ : ∀ u, u < 6 → J 30 (6 * u + e) = lN (DN cnt fld fty e u)) {o : mm_O} {σ' : mm_S}
    (hr : mm_Run l X 105 (d + 2) 33 [.ref 26, .int (nI e), .int (nI (t + 1)), .null, .null, .null] [] (mm_Λ, I, mm_set J 30 (6 * t + (e + 1)) (lN (DN cnt fld fty (e + 1) t))) mc ms o σ') : ∀ (n c acc : Nat), c + n = cnt t → acc ≤ mny → foldCN (fun c => DFN cnt fld fty e (4 * t + c)) n c acc = DN cnt fld fty (e + 1) t →
    mm_Run l X 105 (d + 2) 44 [.ref 26, .int (nI e), .int (nI t), .long (lN acc), .null, .int (nI c)] [] (mm_Λ, I, J) mc ms o σ'
  | 0, c, acc, hc, ha, hs => by
    have h4 := (hT.1 t ht).2
    refine b105_44 (ix_in ht (by omega)) (fun _ => b105_74 (by rw [jx6, nI_1]; exact ix_in (by omega) (by omega)) ?_) (fun h => ?_)
    · rw [jx6, nI_1, nI_1, ix_cl (by omega), show acc = DN cnt fld fty (e + 1) t from hs]
      exact hr
    · rw [ix_cl (by omega), (hT.1 t ht).1] at h
      exact absurd (nI_le (by omega) (by omega)) h
  | n + 1, c, acc, hc, ha, hs => by
    have h4 := (hT.1 t ht).2
    refine b105_44 (ix_in ht (by omega)) (fun h => ?_) (fun _ => ?_)
    · rw [ix_cl (by omega), (hT.1 t ht).1] at h
      exact absurd h (nI_ge (by omega) (by omega))
    · have hp : mm_Call l X 109 (d + 1) [.long (lN acc), .long (lN (DFN cnt fld fty e (4 * t + c)))] (mm_Λ, I, J) 0 0 (.inl (some (.long (lN (min (acc + DFN cnt fld fty e (4 * t + c)) mny))))) (mm_Λ, I, J) := by
        rw [← csI_N ha (DFN_le _ _ _ _ _)]
        exact c109 _ _
      refine b105_55 (c106 hT (by omega) (by omega) hJ) (b105_64 hp (b105_67 ?_))
      rw [nI_1]
      exact c105_sum hT ht he hJ hr n (c + 1) _ (by omega) (Nat.min_le_right _ _) hs
theorem c105_in (hT : TV I 27 28 29 cnt fld fty) {J0 : Nat → Nat → Int64} {e : Nat} (he : e < 5)
    (ho : ∀ J, MDone cnt fld fty J0 (e + 2) 0 J → ∃ J', mm_Run l X 105 (d + 2) 26 [.ref 26, .int (nI (e + 1)), .null, .null, .null, .null] [] (mm_Λ, I, J) mc ms (.inl none) (mm_Λ, I, J') ∧ MDone cnt fld fty J0 6 0 J') :
    ∀ (n t : Nat) (J : Nat → Nat → Int64), t + n = 6 → MDone cnt fld fty J0 (e + 1) t J → ∃ J', mm_Run l X 105 (d + 2) 33 [.ref 26, .int (nI e), .int (nI t), .null, .null, .null] [] (mm_Λ, I, J) mc ms (.inl none) (mm_Λ, I, J') ∧ MDone cnt fld fty J0 6 0 J'
  | 0, t, J, h6, hD => by
    obtain ⟨J', r, hp⟩ := ho J ⟨hD.1, fun e' t' a b c => hD.2 e' t' a b (by omega)⟩
    refine ⟨J', b105_33 (fun _ => b105_94 ?_) (fun h => absurd (nI_le (a := 6) (by omega) (by omega)) h), hp⟩
    rw [nI_1]
    exact r
  | n + 1, t, J, h6, hD => by
    obtain ⟨J', r, hp⟩ := c105_in hT he ho n (t + 1) _ (by omega) (hD.set (by omega) (by omega))
    refine ⟨J', b105_33 (fun h => absurd h (nI_ge (b := 6) (by omega) (by omega))) (fun _ => b105_39 ?_), hp⟩
    have := c105_sum hT (t := t) (by omega) he (fun u hu => hD.2 e u (by omega) hu (Or.inl (by omega))) r (cnt t) 0 0 (by omega) (by decide) rfl
    rw [nI_0] at this
    exact this
theorem c105_out (hT : TV I 27 28 29 cnt fld fty) {J0 : Nat → Nat → Int64} : ∀ (n e : Nat) (J : Nat → Nat → Int64), e + n = 5 → MDone cnt fld fty J0 (e + 1) 0 J →
    ∃ J', mm_Run l X 105 (d + 2) 26 [.ref 26, .int (nI e), .null, .null, .null, .null] [] (mm_Λ, I, J) mc ms (.inl none) (mm_Λ, I, J') ∧ MDone cnt fld fty J0 6 0 J'
  | 0, e, J, h5, hD => by
    have : e = 5 := by omega
    subst this
    exact ⟨J, b105_26 (fun _ => b105_100) (fun h => absurd (nI_le (a := 5) (by omega) (by omega)) h), hD⟩
  | n + 1, e, J, h5, hD => by
    obtain ⟨J', r, hp⟩ := c105_in hT (by omega) (fun J hJ => c105_out hT n (e + 1) J (by omega) hJ) 6 0 J rfl hD
    refine ⟨J', b105_26 (fun h => absurd h (nI_ge (b := 5) (by omega) (by omega))) (fun _ => b105_31 ?_), hp⟩
    rw [nI_0] at r
    exact r
theorem c105_0 {J0 : Nat → Nat → Int64} (ho : ∀ J, MDone cnt fld fty J0 1 0 J → ∃ J', mm_Run l X 105 (d + 2) 26 [.ref 26, .int 0, .null, .null, .null, .null] [] (mm_Λ, I, J) mc ms (.inl none) (mm_Λ, I, J') ∧ MDone cnt fld fty J0 6 0 J') :
    ∀ (n t : Nat) (J : Nat → Nat → Int64), t + n = 6 → MDone cnt fld fty J0 0 t J → ∃ J', mm_Run l X 105 (d + 2) 2 [.ref 26, .int (nI t), .null, .null, .null, .null] [] (mm_Λ, I, J) mc ms (.inl none) (mm_Λ, I, J') ∧ MDone cnt fld fty J0 6 0 J'
  | 0, t, J, h6, hD => by
    obtain ⟨J', r, hp⟩ := ho J ⟨hD.1, fun e' t' a b c => hD.2 e' t' a b (by omega)⟩
    exact ⟨J', b105_2 (fun _ => b105_24 r) (fun h => absurd (nI_le (a := 6) (by omega) (by omega)) h), hp⟩
  | n + 1, t, J, h6, hD => by
    obtain ⟨J', r, hp⟩ := c105_0 ho n (t + 1) _ (by omega) (hD.set (by omega) (by omega))
    refine ⟨J', b105_2 (fun h => absurd h (nI_ge (b := 6) (by omega) (by omega))) (fun _ => b105_8 ?_ ?_), hp⟩
    · rw [show (6 : Int32) = nI 6 from rfl, nI_mul]; exact ix_in (by omega) (by omega)
    · rw [show (6 : Int32) * nI t = nI (6 * t + 0) by rw [show (6 : Int32) = nI 6 from rfl, nI_mul]; rfl, ix_cl (by omega), nI_1]
      exact r
/-- findDeep -/
theorem c105 (hT : TV I 27 28 29 cnt fld fty) : ∃ J', mm_Call l X 105 (d + 2) [.ref 26] (mm_Λ, I, J) mc ms (.inl none) (mm_Λ, I, J') ∧ MDone cnt fld fty J 6 0 J' := by
  obtain ⟨J', r, hp⟩ := @c105_0 l X d I mc ms cnt fld fty J (fun K hK => by
    obtain ⟨J', r, hp⟩ := @c105_out l X d I mc ms cnt fld fty hT J 5 0 K rfl hK
    rw [nI_0] at r
    exact ⟨J', r, hp⟩) 6 0 J rfl ⟨fun _ _ => rfl, fun e' t' _ _ h => by omega⟩
  refine ⟨J', b105_0 ?_, hp⟩
  rw [nI_0] at r
  exact r
end MDEPTH
