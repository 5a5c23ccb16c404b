/-! ===== how many values of a depth there are: the class's table ===== -/
/-- the types as rows a, b, c of the memory have them -/
def TV (I : Nat → Nat → Int32) (a b c : Nat) (cnt fld fty : Nat → Nat) : Prop :=
  (∀ t, t < 6 → I a t = nI (cnt t) ∧ cnt t ≤ 4) ∧ (∀ f, f < 24 → I b f = nI (fld f) ∧ fld f ≤ 3) ∧ (∀ f, f < 24 → ∀ k, k < fld f → I c (3 * f + k) = nI (fty (3 * f + k)) ∧ fty (3 * f + k) < 6)
def foldF (g : Nat → Int64) : Nat → Nat → Int64 → Int64
  | 0, _, acc => acc
  | n + 1, j, acc => foldF g n (j + 1) (cpI acc (g j))
def foldC (g : Nat → Int64) : Nat → Nat → Int64 → Int64
  | 0, _, acc => acc
  | n + 1, c, acc => foldC g n (c + 1) (csI acc (g c))
/-- DT e t: how many values of depth below e; DF e f: with the form f, its fields of depth below e -/
def DT (cnt fld fty : Nat → Nat) : Nat → Nat → Int64
  | 0, _ => 0
  | e + 1, t => foldC (fun c => foldF (fun j => DT cnt fld fty e (fty (3 * (4 * t + c) + j))) (fld (4 * t + c)) 0 1) (cnt t) 0 0
def DF (cnt fld fty : Nat → Nat) (e f : Nat) : Int64 := foldF (fun j => DT cnt fld fty e (fty (3 * f + j))) (fld f) 0 1
theorem DT_succ (cnt fld fty : Nat → Nat) (e t : Nat) : DT cnt fld fty (e + 1) t = foldC (fun c => DF cnt fld fty e (4 * t + c)) (cnt t) 0 0 := rfl
theorem foldF_congr {g h : Nat → Int64} : ∀ (n j : Nat) (acc : Int64), (∀ i, j ≤ i → i < j + n → g i = h i) → foldF g n j acc = foldF h n j acc
  | 0, _, _, _ => rfl
  | n + 1, j, acc, hq => by
    simp only [foldF]
    rw [hq j (Nat.le_refl _) (by omega)]
    exact foldF_congr n (j + 1) _ (fun i h1 h2 => hq i (by omega) (by omega))
theorem foldC_congr {g h : Nat → Int64} : ∀ (n j : Nat) (acc : Int64), (∀ i, j ≤ i → i < j + n → g i = h i) → foldC g n j acc = foldC h n j acc
  | 0, _, _, _ => rfl
  | n + 1, j, acc, hq => by
    simp only [foldC]
    rw [hq j (Nat.le_refl _) (by omega)]
    exact foldC_congr n (j + 1) _ (fun i h1 h2 => hq i (by omega) (by omega))
theorem cpI_0 (a : Int64) : cpI a 0 = 0 := by simp [cpI]
theorem foldF_0 : ∀ (n j : Nat) (acc : Int64), foldF (fun _ => 0) (n + 1) j acc = 0
  | 0, _, acc => cpI_0 acc
  | n + 1, j, acc => by
    rw [foldF]
    exact foldF_0 n (j + 1) _
section DEPTH
variable {l : Launch} {X : Nat × (Nat → Int32)} {d : Nat} {I : Nat → Nat → Int32} {J : Nat → Nat → Int64} {mc ms : Nat} {cnt fld fty : Nat → Nat}
theorem c19T (hT : TV I 2 3 4 cnt fld fty) {t : Nat} (ht : t < 6) : mm_Call l X 19 d [.ref 1, .int (nI t)] (mm_Λ, I, J) mc ms (.inl (some (.int (nI (cnt t))))) (mm_Λ, I, J) := by
  have h := @c19 l X d I J mc ms t ht
  rw [(hT.1 t ht).1] at h
  exact h
theorem c24T (hT : TV I 2 3 4 cnt fld fty) {f : Nat} (hf : f < 24) : mm_Call l X 24 d [.ref 1, .int (nI f)] (mm_Λ, I, J) mc ms (.inl (some (.int (nI (fld f))))) (mm_Λ, I, J) := by
  have h := @c24 l X d I J mc ms f hf
  rw [(hT.2.1 f hf).1] at h
  exact h
theorem c26T (hT : TV I 2 3 4 cnt fld fty) {f k : Nat} (hf : f < 24) (hk : k < fld f) : mm_Call l X 26 d [.ref 1, .int (nI f), .int (nI k)] (mm_Λ, I, J) mc ms (.inl (some (.int (nI (fty (3 * f + k)))))) (mm_Λ, I, J) := by
  have hk3 : k < 3 := Nat.lt_of_lt_of_le hk (hT.2.1 f hf).2
  have h := @c26 l X d I J mc ms f k hf hk3
  rw [(hT.2.2 f hf k hk).1] at h
  exact h
theorem c25_loop (hT : TV I 2 3 4 cnt fld fty) {f e : Nat} (hf : f < 24) (he : e < 4) {x2 : Int32} : ∀ (n j : Nat) (acc : Int64), j + n = fld f →
    mm_Run l X 25 (d + 1) 6 [.ref 5, .int (nI f), .int x2, .int (nI (e + 1)), .long acc, .null, .int (nI j)] [] (mm_Λ, I, J) mc ms (.inl (some (.long (foldF (fun j => J 6 (5 * fty (3 * f + j) + e)) n j acc)))) (mm_Λ, I, J)
  | 0, j, acc, hj => by
    have h3 := (hT.2.1 f hf).2
    refine b25_6 (c24T hT hf) (b25_16 (fun _ => b25_49) (fun h => absurd (nI_le (by omega) (by omega)) h))
  | n + 1, j, acc, hj => by
    have h3 := (hT.2.1 f hf).2
    have h6 := (hT.2.2 f hf j (by omega)).2
    refine b25_6 (c24T hT hf) (b25_16 (fun h => absurd h (nI_ge (by omega) (by omega))) (fun _ => ?_))
    have hv : mm_Call l X 27 d [.ref 5, .int (nI (fty (3 * f + j))), .int (nI (e + 1) - 1)] (mm_Λ, I, J) 0 0 (.inl (some (.long (J 6 (5 * fty (3 * f + j) + e))))) (mm_Λ, I, J) := by
      rw [nI_pred]
      exact c27 h6 (by omega)
    refine b25_19 (c26T hT hf (by omega)) (b25_32 hv (b25_38 (c28 _ _) (b25_41 ?_)))
    rw [nI_1]
    exact c25_loop hT hf he n (j + 1) _ (by omega)
/-- fieldValues, at a depth above 0 -/
theorem c25 (hT : TV I 2 3 4 cnt fld fty) {f e k : Nat} (hf : f < 24) (he : e < 4) (hk : k ≤ fld f) :
    mm_Call l X 25 (d + 1) [.ref 5, .int (nI f), .int (nI k), .int (nI (e + 1))] (mm_Λ, I, J) mc ms (.inl (some (.long (foldF (fun j => J 6 (5 * fty (3 * f + j) + e)) (fld f - k) k 1)))) (mm_Λ, I, J) :=
  b25_0 (c25_loop hT hf he (fld f - k) k 1 (by omega))
/-- .. and where there are no fields left -/
theorem c25z (hT : TV I 2 3 4 cnt fld fty) {f k : Nat} {x3 : Int32} (hf : f < 24) (hk : k = fld f) :
    mm_Call l X 25 (d + 1) [.ref 5, .int (nI f), .int (nI k), .int x3] (mm_Λ, I, J) mc ms (.inl (some (.long 1))) (mm_Λ, I, J) := by
  have h3 := (hT.2.1 f hf).2
  refine b25_0 (b25_6 (c24T hT hf) (b25_16 (fun _ => b25_49) (fun h => absurd (nI_le (by omega) (by omega)) h)))
/-- the value of a form at a depth, from the row of the types' values one depth below -/
def vI (fld fty : Nat → Nat) (r : Nat → Int64) (e f : Nat) : Int64 := if 0 < fld f ∧ e = 0 then 0 else foldF (fun j => r (5 * fty (3 * f + j) + (e - 1))) (fld f) 0 1
def wrJ (fld fty : Nat → Nat) (r : Nat → Int64) (t e : Nat) : Nat → Nat → (Nat → Nat → Int64) → (Nat → Nat → Int64)
  | 0, _, J => J
  | n + 1, c, J => wrJ fld fty r t e n (c + 1) (mm_set J 7 (5 * (4 * t + c) + e) (vI fld fty r e (4 * t + c)))
theorem wrJ_off (fld fty : Nat → Nat) (r : Nat → Int64) (t e : Nat) : ∀ (n c : Nat) (J : Nat → Nat → Int64) (p : Nat), p ≠ 7 → wrJ fld fty r t e n c J p = J p
  | 0, _, _, _, _ => rfl
  | n + 1, c, J, p, hp => by
    rw [wrJ, wrJ_off fld fty r t e n (c + 1) _ p hp, mm_set_ne hp]
theorem c23_loop (hT : TV I 2 3 4 cnt fld fty) {t e : Nat} (ht : t < 6) (he : e < 5) (r : Nat → Int64) : ∀ (n c : Nat) (acc : Int64) (J : Nat → Nat → Int64), c + n = cnt t → J 6 = r →
    mm_Run l X 23 (d + 2) 5 [.ref 5, .int (nI t), .int (nI e), .long acc, .null, .int (nI c), .null, .null, .null] [] (mm_Λ, I, J) mc ms (.inl none) (mm_Λ, I, mm_set (wrJ fld fty r t e n c J) 6 (5 * t + e) (foldC (fun c => vI fld fty r e (4 * t + c)) n c acc))
  | 0, c, acc, J, hc, hr => by
    have h4 := (hT.1 t ht).2
    refine b23_5 (c19T hT ht) (b23_15 (fun _ => ?_) (fun h => absurd (nI_le (by omega) (by omega)) h))
    have h := @b23_82 l X (d + 1) I J (nI t) (nI e) acc (nI c) mc ms (by rw [ix5]; exact ix_in (by omega) (by omega))
    rw [ix5, ix_cl (by omega)] at h
    exact h
  | n + 1, c, acc, J, hc, hr => by
    have h4 := (hT.1 t ht).2
    have hf : 4 * t + c < 24 := by omega
    have h3 := (hT.2.1 (4 * t + c) hf).2
    refine b23_5 (c19T hT ht) (b23_15 (fun h => absurd h (nI_ge (by omega) (by omega))) (fun _ => ?_))
    refine b23_18 (c21 t c) (b23_24 (c24T hT hf) ?_)
    have hin : vp_in (nI (4 * t + c) * 5 + nI e) 120 := by rw [ix5]; exact ix_in (by omega) (by omega)
    have tail : ∀ {v : Int64}, v = vI fld fty r e (4 * t + c) → mm_Run l X 23 (d + 2) 54 [.ref 5, .int (nI t), .int (nI e), .long acc, .null, .int (nI c), .int (nI (4 * t + c)), .null, .null] [.long v] (mm_Λ, I, J) mc ms (.inl none) (mm_Λ, I, mm_set (wrJ fld fty r t e (n + 1) c J) 6 (5 * t + e) (foldC (fun c => vI fld fty r e (4 * t + c)) (n + 1) c acc)) := by
      intro v hv
      refine b23_54 hin (c29 _ _) (b23_75 ?_)
      rw [nI_1, ix5, ix_cl (by omega), hv]
      exact c23_loop hT ht he r n (c + 1) _ _ (by omega) (by rw [mm_set_ne (by decide)]; exact hr)
    refine b23_35 (fun h => ?_) (fun h => b23_38 (fun h1 => ?_) (fun h1 => b23_42 (tail ?_)))
    · have h0 : fld (4 * t + c) = 0 := by
        rcases Nat.eq_zero_or_pos (fld (4 * t + c)) with q | q
        · exact q
        · exact absurd h (nI_nle q (by omega))
      refine b23_46 (c25z hT hf (k := 0) h0.symm) (tail ?_)
      simp [vI, h0, foldF]
    · have h0 : e ≠ 0 := fun q => h1 (by rw [q, nI_0])
      obtain ⟨e', rfl⟩ : ∃ e', e = e' + 1 := ⟨e - 1, by omega⟩
      refine b23_46 (c25 hT hf (e := e') (k := 0) (by omega) (Nat.zero_le _)) (tail ?_)
      simp [vI, hr]
    · have h0 : e = 0 := by
        have q := Decidable.not_not.mp h1
        rw [← nI_0] at q
        exact (nI_eq (by omega) (by omega)).mp q
      have hp : 0 < fld (4 * t + c) := by
        rcases Nat.eq_zero_or_pos (fld (4 * t + c)) with q | q
        · exact absurd (by rw [q, nI_0]; exact Int32.le_refl 0) h
        · exact q
      simp [vI, h0, hp]
/-- fillType -/
theorem c23 (hT : TV I 2 3 4 cnt fld fty) {t e : Nat} (ht : t < 6) (he : e < 5) :
    mm_Call l X 23 (d + 2) [.ref 5, .int (nI t), .int (nI e)] (mm_Λ, I, J) mc ms (.inl none) (mm_Λ, I, mm_set (wrJ fld fty (J 6) t e (cnt t) 0 J) 6 (5 * t + e) (foldC (fun c => vI fld fty (J 6) e (4 * t + c)) (cnt t) 0 0)) := by
  have h := @c23_loop l X d I mc ms cnt fld fty hT t e ht he (J 6) (cnt t) 0 0 J (by omega) rfl
  rw [nI_0] at h
  exact b23_0 h
theorem wrJ_hit (fld fty : Nat → Nat) (r : Nat → Int64) (t e : Nat) : ∀ (n c : Nat) (J : Nat → Nat → Int64) (c' : Nat), c ≤ c' → c' < c + n → wrJ fld fty r t e n c J 7 (5 * (4 * t + c') + e) = vI fld fty r e (4 * t + c')
  | 0, c, J, c', h1, h2 => by omega
  | n + 1, c, J, c', h1, h2 => by
    rw [wrJ]
    by_cases h : c' = c
    · subst h
      have key : ∀ (m k : Nat) (K : Nat → Nat → Int64), c' < k → wrJ fld fty r t e m k K 7 (5 * (4 * t + c') + e) = K 7 (5 * (4 * t + c') + e) := by
        intro m
        induction m with
        | zero => intro k K _; rfl
        | succ m ih =>
          intro k K hk
          rw [wrJ, ih (k + 1) _ (by omega), mm_set_eq]
          dsimp only
          rw [if_neg (by omega)]
      rw [key n (c' + 1) _ (by omega), mm_set_eq]
      dsimp only
      rw [if_pos rfl]
    · exact wrJ_hit fld fty r t e n (c + 1) _ c' (by omega) (by omega)
theorem wrJ_miss (fld fty : Nat → Nat) (r : Nat → Int64) (t e : Nat) : ∀ (n c : Nat) (J : Nat → Nat → Int64) (i : Nat), (∀ c', c ≤ c' → c' < c + n → i ≠ 5 * (4 * t + c') + e) → wrJ fld fty r t e n c J 7 i = J 7 i
  | 0, c, J, i, h => rfl
  | n + 1, c, J, i, h => by
    rw [wrJ, wrJ_miss fld fty r t e n (c + 1) _ i (fun c' h1 h2 => h c' (by omega) (by omega)), mm_set_eq]
    dsimp only
    rw [if_neg (h c (Nat.le_refl _) (by omega))]
/-- the tables are right up to depth e, and at e up to type t -/
def DDone (cnt fld fty : Nat → Nat) (J0 : Nat → Nat → Int64) (e t : Nat) (J : Nat → Nat → Int64) : Prop :=
  (∀ p, p ≠ 6 → p ≠ 7 → J p = J0 p) ∧ ∀ e' t', e' < 5 → t' < 6 → (e' < e ∨ (e' = e ∧ t' < t)) → J 6 (5 * t' + e') = DT cnt fld fty (e' + 1) t' ∧ ∀ c, c < cnt t' → J 7 (5 * (4 * t' + c) + e') = DF cnt fld fty e' (4 * t' + c)
theorem vI_ok (hT : TV I 2 3 4 cnt fld fty) {J0 : Nat → Nat → Int64} {e t f : Nat} (hf : f < 24) (he : e < 5) (h : DDone cnt fld fty J0 e t J) : vI fld fty (J 6) e f = DF cnt fld fty e f := by
  unfold vI DF
  rcases Nat.eq_zero_or_pos e with h0 | h0
  · subst h0
    by_cases hp : 0 < fld f
    · rw [if_pos ⟨hp, rfl⟩]
      obtain ⟨n, hn⟩ : ∃ n, fld f = n + 1 := ⟨fld f - 1, by omega⟩
      rw [hn]
      exact (foldF_0 n 0 1).symm
    · rw [if_neg (fun q => hp q.1), show fld f = 0 by omega]
      rfl
  · rw [if_neg (fun q => by omega)]
    refine foldF_congr _ _ _ fun i _ hi => ?_
    have h6 := (hT.2.2 f hf i (by omega)).2
    have := (h.2 (e - 1) (fty (3 * f + i)) (by omega) h6 (Or.inl (by omega))).1
    rw [this, show e - 1 + 1 = e by omega]
theorem DDone.step (hT : TV I 2 3 4 cnt fld fty) {J0 : Nat → Nat → Int64} {e t : Nat} (ht : t < 6) (he : e < 5) (h : DDone cnt fld fty J0 e t J) :
    DDone cnt fld fty J0 e (t + 1) (mm_set (wrJ fld fty (J 6) t e (cnt t) 0 J) 6 (5 * t + e) (foldC (fun c => vI fld fty (J 6) e (4 * t + c)) (cnt t) 0 0)) := by
  have h4 := (hT.1 t ht).2
  refine ⟨fun p h1 h2 => ?_, fun e' t' he' ht' hd => ?_⟩
  · rw [mm_set_ne h1, wrJ_off _ _ _ _ _ _ _ _ _ h2]; exact h.1 p h1 h2
  · have h4' := (hT.1 t' ht').2
    rw [mm_set_eq, mm_set_ne (show (7 : Nat) ≠ 6 by decide)]
    dsimp only
    by_cases hh : e' = e ∧ t' = t
    · obtain ⟨rfl, rfl⟩ := hh
      rw [if_pos rfl, DT_succ]
      refine ⟨foldC_congr _ _ _ fun i _ hi => vI_ok hT (by omega) he h, fun c hc => ?_⟩
      rw [wrJ_hit _ _ _ _ _ _ _ _ _ (Nat.zero_le _) (by omega)]
      exact vI_ok hT (by omega) he h
    · have hd' : e' < e ∨ (e' = e ∧ t' < t) := by
        rcases hd with q | ⟨q1, q2⟩
        · exact Or.inl q
        · refine Or.inr ⟨q1, ?_⟩
          rcases Nat.lt_succ_iff_lt_or_eq.mp q2 with q | q
          · exact q
          · exact absurd ⟨q1, q⟩ hh
      obtain ⟨g1, g2⟩ := h.2 e' t' he' ht' hd'
      rw [if_neg (by omega)]
      refine ⟨?_, fun c hc => ?_⟩
      · rw [wrJ_off _ _ _ _ _ _ _ _ _ (by decide)]; exact g1
      · rw [wrJ_miss _ _ _ _ _ _ _ _ _ (fun c' _ hc' q => hh (by omega))]
        exact g2 c hc
theorem c22_in (hT : TV I 2 3 4 cnt fld fty) {J0 : Nat → Nat → Int64} {e : Nat} (he : e < 5)
    (ho : ∀ J, DDone cnt fld fty J0 (e + 1) 0 J → ∃ J', mm_Run l X 22 (d + 3) 2 [.ref 5, .int (nI (e + 1)), .null] [] (mm_Λ, I, J) mc ms (.inl none) (mm_Λ, I, J') ∧ DDone cnt fld fty J0 5 0 J') :
    ∀ (n t : Nat) (J : Nat → Nat → Int64), t + n = 6 → DDone cnt fld fty J0 e t J → ∃ J', mm_Run l X 22 (d + 3) 9 [.ref 5, .int (nI e), .int (nI t)] [] (mm_Λ, I, J) mc ms (.inl none) (mm_Λ, I, J') ∧ DDone cnt fld fty J0 5 0 J'
  | 0, t, J, h6, hD => by
    obtain ⟨J', r, hp⟩ := ho J ⟨hD.1, fun e' t' a b c => hD.2 e' t' a b (by omega)⟩
    refine ⟨J', b22_9 (fun _ => b22_27 ?_) (fun h => absurd (nI_le (a := 6) (by omega) (by omega)) h), hp⟩
    rw [nI_1]
    exact r
  | n + 1, t, J, h6, hD => by
    obtain ⟨J', r, hp⟩ := c22_in hT he ho n (t + 1) _ (by omega) (hD.step hT (by omega) he)
    refine ⟨J', b22_9 (fun h => absurd h (nI_ge (b := 6) (by omega) (by omega))) (fun _ => b22_15 (c23 hT (by omega) he) (b22_21 ?_)), hp⟩
    rw [nI_1]
    exact r
theorem c22_out (hT : TV I 2 3 4 cnt fld fty) {J0 : Nat → Nat → Int64} : ∀ (n e : Nat) (J : Nat → Nat → Int64), e + n = 5 → DDone cnt fld fty J0 e 0 J →
    ∃ J', mm_Run l X 22 (d + 3) 2 [.ref 5, .int (nI e), .null] [] (mm_Λ, I, J) mc ms (.inl none) (mm_Λ, I, J') ∧ DDone cnt fld fty J0 5 0 J'
  | 0, e, J, h5, hD => by
    have : e = 5 := by omega
    subst this
    exact ⟨J, b22_2 (fun _ => b22_33) (fun h => absurd (nI_le (a := 5) (by omega) (by omega)) h), hD⟩
  | n + 1, e, J, h5, hD => by
    obtain ⟨J', r, hp⟩ := c22_in hT (by omega) (fun J hJ => c22_out hT n (e + 1) J (by omega) hJ) 6 0 J rfl hD
    refine ⟨J', b22_2 (fun h => absurd h (nI_ge (b := 5) (by omega) (by omega))) (fun _ => b22_7 ?_), hp⟩
    rw [nI_0] at r
    exact r
/-- fill of the depth table -/
theorem c22 (hT : TV I 2 3 4 cnt fld fty) : ∃ J', mm_Call l X 22 (d + 3) [.ref 5] (mm_Λ, I, J) mc ms (.inl none) (mm_Λ, I, J') ∧ DDone cnt fld fty J 5 0 J' := by
  obtain ⟨J', r, hp⟩ := @c22_out l X d I mc ms cnt fld fty hT J 5 0 J rfl ⟨fun _ _ _ => rfl, fun e' t' _ _ h => by omega⟩
  refine ⟨J', b22_0 ?_, hp⟩
  rw [nI_0] at r
  exact r
end DEPTH
