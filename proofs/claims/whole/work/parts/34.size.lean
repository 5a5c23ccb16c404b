/-! ===== how many values of a size there are: the class's table ===== -/
def sumP (g : Nat → Nat) : Nat → Nat → Nat
  | 0, _ => 0
  | n + 1, p => g p + sumP g n (p + 1)
theorem sumP_congr {g h : Nat → Nat} : ∀ (n p : Nat), (∀ i, p ≤ i → i < p + n → g i = h i) → sumP g n p = sumP h n p
  | 0, _, _ => rfl
  | n + 1, p, hq => by
    rw [sumP, sumP, hq p (Nat.le_refl _) (by omega), sumP_congr n (p + 1) (fun i h1 h2 => hq i (by omega) (by omega))]
/-- in how many ways the last j fields of a form can have the size n together -/
def wW (S : Nat → Nat → Nat) (fld fty : Nat → Nat) (f : Nat) : Nat → Nat → Nat
  | 0, n => if n = 0 then 1 else 0
  | j + 1, n => sumP (fun p => S p (fty (3 * f + (fld f - (j + 1)))) * wW S fld fty f j (n - p)) n 1
def SNt (cnt fld fty : Nat → Nat) : Nat → Nat → Nat → Nat
  | 0 => fun _ _ => 0
  | n + 1 => fun s t => if s = n + 1 then sumP (fun c => wW (SNt cnt fld fty n) fld fty (4 * t + c) (fld (4 * t + c)) n) (cnt t) 0 else SNt cnt fld fty n s t
/-- how many values of the type t have the size s -/
def SN (cnt fld fty : Nat → Nat) (s t : Nat) : Nat := SNt cnt fld fty s s t
theorem wW_congr {S S' : Nat → Nat → Nat} {fld fty : Nat → Nat} {f : Nat} : ∀ (j n : Nat), (∀ p t, p ≤ n → S p t = S' p t) → wW S fld fty f j n = wW S' fld fty f j n
  | 0, _, _ => rfl
  | j + 1, n, h => by
    rw [wW, wW]
    exact sumP_congr _ _ fun p h1 h2 => by rw [h p _ (by omega), wW_congr j (n - p) (fun q t hq => h q t (by omega))]
theorem SNt_stable (cnt fld fty : Nat → Nat) : ∀ (n s t : Nat), s ≤ n → SNt cnt fld fty n s t = SN cnt fld fty s t
  | 0, s, t, h => by
    have : s = 0 := by omega
    subst this; rfl
  | n + 1, s, t, h => by
    by_cases hs : s = n + 1
    · subst hs; rfl
    · show (if s = n + 1 then _ else SNt cnt fld fty n s t) = _
      rw [if_neg hs]
      exact SNt_stable cnt fld fty n s t (by omega)
theorem SN_succ (cnt fld fty : Nat → Nat) (n t : Nat) : SN cnt fld fty (n + 1) t = sumP (fun c => wW (SN cnt fld fty) fld fty (4 * t + c) (fld (4 * t + c)) n) (cnt t) 0 := by
  show (if n + 1 = n + 1 then sumP (fun c => wW (SNt cnt fld fty n) fld fty (4 * t + c) (fld (4 * t + c)) n) (cnt t) 0 else _) = _
  rw [if_pos rfl]
  exact sumP_congr _ _ fun c _ _ => wW_congr _ _ fun p u hp => SNt_stable cnt fld fty n p u hp
section SIZE
variable {l : Launch} {X : Nat × (Nat → Int32)} {d : Nat} {I : Nat → Nat → Int32} {J : Nat → Nat → Int64} {mc ms : Nat} {cnt fld fty : Nat → Nat}
/-- right below size n; at n up to type t, there up to constructor c -/
def SD (cnt fld fty : Nat → Nat) (J0 : Nat → Nat → Int64) (n t c : Nat) (J : Nat → Nat → Int64) : Prop :=
  (∀ p, p ≠ 9 → p ≠ 10 → J p = J0 p) ∧
  (∀ s t', 1 ≤ s → s ≤ 12 → t' < 6 → (s ≤ n ∨ (s = n + 1 ∧ t' < t)) → J 9 (13 * t' + s) = lN (SN cnt fld fty s t')) ∧
  (∀ m t' c' k, m < 12 → t' < 6 → c' < cnt t' → k ≤ fld (4 * t' + c') → (m < n ∨ (m = n ∧ (t' < t ∨ (t' = t ∧ c' < c)))) → J 10 (13 * (4 * (4 * t' + c') + k) + m) = lN (wW (SN cnt fld fty) fld fty (4 * t' + c') (fld (4 * t' + c') - k) m))
theorem nI_sub {a b : Nat} (h : b ≤ a) : nI a - nI b = nI (a - b) := by
  obtain ⟨c, rfl⟩ := Nat.exists_eq_add_of_le h
  rw [← nI_add, Nat.add_sub_cancel_left]
  rw [Int32.add_comm, Int32.add_sub_cancel]
theorem c32_loop (hT : TV I 2 3 4 cnt fld fty) {J0 : Nat → Nat → Int64} {n t c t' c' k : Nat} (hn : n < 12) (ht' : t' < 6) (hc' : c' < cnt t') (hk : k < fld (4 * t' + c')) (hS : SD cnt fld fty J0 n t c J) : ∀ (m p acc : Nat), p + m = n + 1 → 1 ≤ p →
    mm_Run l X 32 (d + 1) 28 [.ref 8, .int (nI (4 * t' + c')), .int (nI k), .int (nI n), .long (lN acc), .null, .int (nI p)] [] (mm_Λ, I, J) mc ms
      (.inl (some (.long (lN (acc + sumP (fun p => SN cnt fld fty p (fty (3 * (4 * t' + c') + k)) * wW (SN cnt fld fty) fld fty (4 * t' + c') (fld (4 * t' + c') - (k + 1)) (n - p)) m p))))) (mm_Λ, I, J)
  | 0, p, acc, hp, h1 => by
    refine b32_28 (fun _ => b32_73) (fun h => absurd (nI_lt (by omega) (by omega)) h)
  | m + 1, p, acc, hp, h1 => by
    have h4 := (hT.1 t' ht').2
    have hf : 4 * t' + c' < 24 := by omega
    have h3 := (hT.2.1 _ hf).2
    have h6 := (hT.2.2 _ hf k hk).2
    have e1 : mm_Call l X 33 d [.ref 8, .int (nI (fty (3 * (4 * t' + c') + k))), .int (nI p)] (mm_Λ, I, J) 0 0 (.inl (some (.long (lN (SN cnt fld fty p (fty (3 * (4 * t' + c') + k))))))) (mm_Λ, I, J) := by
      rw [← hS.2.1 p _ h1 (by omega) h6 (Or.inl (by omega))]
      exact c33 h6 (by omega)
    have e2 : mm_Call l X 34 d [.ref 8, .int (nI (4 * t' + c')), .int (nI k + 1), .int (nI n - nI p)] (mm_Λ, I, J) 0 0 (.inl (some (.long (lN (wW (SN cnt fld fty) fld fty (4 * t' + c') (fld (4 * t' + c') - (k + 1)) (n - p)))))) (mm_Λ, I, J) := by
      rw [nI_1, nI_sub (by omega), ← hS.2.2 (n - p) t' c' (k + 1) (by omega) ht' hc' (by omega) (Or.inl (by omega))]
      exact c34 hf (by omega) (by omega)
    refine b32_28 (fun h => absurd h (nI_nlt (by omega) (by omega))) (fun _ => b32_34 (c26T hT hf hk) (b32_46 e1 (b32_51 e2 (b32_63 ?_))))
    rw [nI_1, lN_mul, lN_add]
    have := @c32_loop hT J0 n t c t' c' k hn ht' hc' hk hS m (p + 1) (acc + SN cnt fld fty p (fty (3 * (4 * t' + c') + k)) * wW (SN cnt fld fty) fld fty (4 * t' + c') (fld (4 * t' + c') - (k + 1)) (n - p)) (by omega) (by omega)
    rw [Nat.add_assoc] at this
    exact this
/-- waysToShare -/
theorem c32 (hT : TV I 2 3 4 cnt fld fty) {J0 : Nat → Nat → Int64} {n t c t' c' k : Nat} (hn : n < 12) (ht' : t' < 6) (hc' : c' < cnt t') (hk : k ≤ fld (4 * t' + c')) (hS : SD cnt fld fty J0 n t c J) :
    mm_Call l X 32 (d + 1) [.ref 8, .int (nI (4 * t' + c')), .int (nI k), .int (nI n)] (mm_Λ, I, J) mc ms (.inl (some (.long (lN (wW (SN cnt fld fty) fld fty (4 * t' + c') (fld (4 * t' + c') - k) n))))) (mm_Λ, I, J) := by
  have h4 := (hT.1 t' ht').2
  have hf : 4 * t' + c' < 24 := by omega
  have h3 := (hT.2.1 _ hf).2
  refine b32_0 (c24T hT hf) (b32_9 (fun h => b32_22 ?_) (fun h => ?_))
  · have hk' : k < fld (4 * t' + c') := by
      rcases Nat.lt_or_eq_of_le hk with q | q
      · exact q
      · exact absurd (by rw [q]) h
    have r := @c32_loop l X d I J mc ms cnt fld fty hT J0 n t c t' c' k hn ht' hc' hk' hS n 1 0 (by omega) (by omega)
    rw [show fld (4 * t' + c') - k = fld (4 * t' + c') - (k + 1) + 1 by omega, wW, show fld (4 * t' + c') - (fld (4 * t' + c') - (k + 1) + 1) = k by omega]
    rw [Nat.zero_add] at r
    exact r
  · have hk' : k = fld (4 * t' + c') := (nI_eq (by omega) (by omega)).mp (Decidable.not_not.mp h)
    rw [← hk', Nat.sub_self, wW]
    refine b32_12 (fun h0 => ?_) (fun h0 => ?_)
    · rw [if_neg (fun q => h0 (by rw [q, nI_0]))]
      exact b32_20 b32_21
    · have : n = 0 := (nI_eq (by omega) (by omega)).mp ((Decidable.not_not.mp h0).trans nI_0.symm)
      rw [if_pos this]
      exact b32_16 b32_21
def kx : Nat → Int32
  | 0 => -1
  | k + 1 => nI k
theorem kx_dec (k : Nat) : nI k + (-1) = kx k := by
  cases k with
  | zero => decide
  | succ k =>
    show nI (k + 1) + (-1) = nI k
    rw [← nI_pred k, Int32.sub_eq_add_neg]
theorem c31_k (hT : TV I 2 3 4 cnt fld fty) {J0 : Nat → Nat → Int64} {n t c : Nat} {acc : Int64} (hn : n < 12) (ht : t < 6) (hc : c < cnt t) {Q : (Nat → Nat → Int64) → Prop}
    (ho : ∀ J, SD cnt fld fty J0 n t (c + 1) J → ∃ Jf, mm_Run l X 31 (d + 2) 74 [.ref 8, .int (nI t), .int (nI n), .long acc, .null, .int (nI c), .int (nI (4 * t + c)), .int (-1)] [] (mm_Λ, I, J) mc ms (.inl none) (mm_Λ, I, Jf) ∧ Q Jf) :
    ∀ (kk : Nat) (J : Nat → Nat → Int64), kk ≤ fld (4 * t + c) + 1 → SD cnt fld fty J0 n t c J → (∀ k, kk ≤ k → k ≤ fld (4 * t + c) → J 10 (13 * (4 * (4 * t + c) + k) + n) = lN (wW (SN cnt fld fty) fld fty (4 * t + c) (fld (4 * t + c) - k) n)) →
      ∃ Jf, mm_Run l X 31 (d + 2) 37 [.ref 8, .int (nI t), .int (nI n), .long acc, .null, .int (nI c), .int (nI (4 * t + c)), .int (kx kk)] [] (mm_Λ, I, J) mc ms (.inl none) (mm_Λ, I, Jf) ∧ Q Jf
  | 0, J, hkk, hS, hw => by
    obtain ⟨Jf, r, hq⟩ := ho J ⟨hS.1, hS.2.1, fun m t' c' k hm ht' hc' hk hd => by
      by_cases hh : m = n ∧ t' = t ∧ c' = c
      · obtain ⟨rfl, rfl, rfl⟩ := hh
        exact hw k (Nat.zero_le _) hk
      · exact hS.2.2 m t' c' k hm ht' hc' hk (by omega)⟩
    exact ⟨Jf, b31_37 (fun _ => r) (fun h => absurd (by decide) h), hq⟩
  | kk + 1, J, hkk, hS, hw => by
    have h4 := (hT.1 t ht).2
    have hf : 4 * t + c < 24 := by omega
    have h3 := (hT.2.1 _ hf).2
    have hix : nI (4 * t + c) * 4 + nI kk = nI (4 * (4 * t + c) + kk) := ix4 _ _
    rw [show kx (kk + 1) = nI kk from rfl]
    obtain ⟨Jf, r, hq⟩ := c31_k hT hn ht hc ho kk (mm_set J 10 (13 * (4 * (4 * t + c) + kk) + n) (lN (wW (SN cnt fld fty) fld fty (4 * t + c) (fld (4 * t + c) - kk) n))) (by omega)
      ⟨fun p h9 h10 => by rw [mm_set_ne h10]; exact hS.1 p h9 h10, fun s t' a b c0 e => by rw [mm_set_ne (by decide)]; exact hS.2.1 s t' a b c0 e, fun m t' c' k hm ht' hc' hk hd => by
        have h4' := (hT.1 t' ht').2
        have h3' := (hT.2.1 (4 * t' + c') (by omega)).2
        rw [mm_set_eq]
        dsimp only
        rw [if_neg (by omega)]
        exact hS.2.2 m t' c' k hm ht' hc' hk hd⟩
      (fun k h1 h2 => by
        rw [mm_set_eq]
        dsimp only
        by_cases hk : k = kk
        · subst hk; rw [if_pos rfl]
        · rw [if_neg (by omega)]; exact hw k (by omega) h2)
    refine ⟨Jf, b31_37 (fun h => absurd h (nI_pos (by omega))) (fun _ => b31_42 (c32 hT hn ht hc (by omega) hS) (b31_67 (by rw [hix, ix13]; exact ix_in (by omega) (by omega)) ?_)), hq⟩
    rw [hix, ix13, ix_cl (by omega), kx_dec]
    exact r
theorem c31_c (hT : TV I 2 3 4 cnt fld fty) {J0 : Nat → Nat → Int64} {n t : Nat} (hn : n < 12) (ht : t < 6) : ∀ (m c acc : Nat) (J : Nat → Nat → Int64), c + m = cnt t → SD cnt fld fty J0 n t c J →
    acc + sumP (fun c => wW (SN cnt fld fty) fld fty (4 * t + c) (fld (4 * t + c)) n) m c = SN cnt fld fty (n + 1) t →
    ∃ Jf, mm_Run l X 31 (d + 2) 5 [.ref 8, .int (nI t), .int (nI n), .long (lN acc), .null, .int (nI c), .null, .null] [] (mm_Λ, I, J) mc ms (.inl none) (mm_Λ, I, Jf) ∧ SD cnt fld fty J0 n (t + 1) 0 Jf
  | 0, c, acc, J, hm, hS, hs => by
    have h4 := (hT.1 t ht).2
    have r := @b31_91 l X (d + 1) I J (nI t) (nI n) (lN acc) (nI c) mc ms (by rw [ix13, nI_1]; exact ix_in (by omega) (by omega))
    rw [ix13, nI_1, ix_cl (by omega)] at r
    refine ⟨_, b31_5 (c19T hT ht) (b31_15 (fun _ => r) (fun h => absurd (nI_le (by omega) (by omega)) h)), fun p h9 h10 => by rw [mm_set_ne h9]; exact hS.1 p h9 h10, fun s t' h1 h12 ht' hd => ?_, fun m t' c' k h1 h2 h3 h4 hd => by
      rw [mm_set_ne (by decide)]; exact hS.2.2 m t' c' k h1 h2 h3 h4 (by
        by_cases ht2 : t' = t
        · subst ht2; omega
        · omega)⟩
    rw [mm_set_eq]
    dsimp only
    by_cases hh : s = n + 1 ∧ t' = t
    · obtain ⟨rfl, rfl⟩ := hh
      rw [if_pos (by omega)]
      exact congrArg lN (by rw [← hs]; rfl)
    · rw [if_neg (by omega)]
      exact hS.2.1 s t' h1 h12 ht' (by omega)
  | m + 1, c, acc, J, hm, hS, hs => by
    have h4 := (hT.1 t ht).2
    have hf : 4 * t + c < 24 := by omega
    have h3 := (hT.2.1 _ hf).2
    obtain ⟨Jf, r, hq⟩ := @c31_k l X d I mc ms cnt fld fty hT J0 n t c (lN acc) hn ht (by omega) (SD cnt fld fty J0 n (t + 1) 0) (fun J' hJ' => by
      obtain ⟨Jf, r, hq⟩ := c31_c hT hn ht m (c + 1) (acc + wW (SN cnt fld fty) fld fty (4 * t + c) (fld (4 * t + c)) n) J' (by omega) hJ' (by rw [← hs, sumP, Nat.add_assoc])
      have e : mm_Call l X 34 (d + 1) [.ref 8, .int (nI (4 * t + c)), .int 0, .int (nI n)] (mm_Λ, I, J') 0 0 (.inl (some (.long (lN (wW (SN cnt fld fty) fld fty (4 * t + c) (fld (4 * t + c)) n))))) (mm_Λ, I, J') := by
        have e0 := hJ'.2.2 n t c 0 hn ht (by omega) (Nat.zero_le _) (by omega)
        rw [Nat.sub_zero] at e0
        rw [← nI_0, ← e0]
        exact c34 hf (by omega) (by omega)
      refine ⟨Jf, b31_74 e (b31_83 ?_), hq⟩
      rw [lN_add, nI_1]
      exact r) (fld (4 * t + c) + 1) J (Nat.le_refl _) hS (fun k h1 h2 => by omega)
    exact ⟨Jf, b31_5 (c19T hT ht) (b31_15 (fun h => absurd h (nI_ge (by omega) (by omega))) (fun _ => b31_18 (c21 t c) (b31_24 (c24T hT hf) (b31_35 r)))), hq⟩
/-- fillType of the table of sizes -/
theorem c31 (hT : TV I 2 3 4 cnt fld fty) {J0 : Nat → Nat → Int64} {n t : Nat} (hn : n < 12) (ht : t < 6) (hS : SD cnt fld fty J0 n t 0 J) :
    ∃ Jf, mm_Call l X 31 (d + 2) [.ref 8, .int (nI t), .int (nI n)] (mm_Λ, I, J) mc ms (.inl none) (mm_Λ, I, Jf) ∧ SD cnt fld fty J0 n (t + 1) 0 Jf := by
  obtain ⟨Jf, r, hq⟩ := @c31_c l X d I mc ms cnt fld fty hT J0 n t hn ht (cnt t) 0 0 J (by omega) hS (by rw [Nat.zero_add]; exact (SN_succ cnt fld fty n t).symm)
  refine ⟨Jf, b31_0 ?_, hq⟩
  rw [nI_0] at r
  exact r
theorem c30_in (hT : TV I 2 3 4 cnt fld fty) {J0 : Nat → Nat → Int64} {e : Nat} (he : e < 12)
    (ho : ∀ J, SD cnt fld fty J0 (e + 1) 0 0 J → ∃ J', mm_Run l X 30 (d + 3) 2 [.ref 8, .int (nI (e + 1)), .null] [] (mm_Λ, I, J) mc ms (.inl none) (mm_Λ, I, J') ∧ SD cnt fld fty J0 12 0 0 J') :
    ∀ (n t : Nat) (J : Nat → Nat → Int64), t + n = 6 → SD cnt fld fty J0 e t 0 J → ∃ J', mm_Run l X 30 (d + 3) 10 [.ref 8, .int (nI e), .int (nI t)] [] (mm_Λ, I, J) mc ms (.inl none) (mm_Λ, I, J') ∧ SD cnt fld fty J0 12 0 0 J'
  | 0, t, J, h6, hD => by
    obtain ⟨J', r, hp⟩ := ho J ⟨hD.1, fun s t' a b c h => hD.2.1 s t' a b c (by omega), fun m t' c' k a b c e0 h => hD.2.2 m t' c' k a b c e0 (by omega)⟩
    refine ⟨J', b30_10 (fun _ => b30_28 ?_) (fun h => absurd (nI_le (a := 6) (by omega) (by omega)) h), hp⟩
    rw [nI_1]
    exact r
  | n + 1, t, J, h6, hD => by
    obtain ⟨J1, r1, h1⟩ := @c31 l X d I J 0 0 cnt fld fty hT J0 e t he (by omega) hD
    obtain ⟨J', r, hp⟩ := c30_in hT he ho n (t + 1) J1 (by omega) h1
    refine ⟨J', b30_10 (fun h => absurd h (nI_ge (b := 6) (by omega) (by omega))) (fun _ => b30_16 r1 (b30_22 ?_)), hp⟩
    rw [nI_1]
    exact r
theorem c30_out (hT : TV I 2 3 4 cnt fld fty) {J0 : Nat → Nat → Int64} : ∀ (n e : Nat) (J : Nat → Nat → Int64), e + n = 12 → SD cnt fld fty J0 e 0 0 J →
    ∃ J', mm_Run l X 30 (d + 3) 2 [.ref 8, .int (nI e), .null] [] (mm_Λ, I, J) mc ms (.inl none) (mm_Λ, I, J') ∧ SD cnt fld fty J0 12 0 0 J'
  | 0, e, J, h5, hD => by
    have : e = 12 := by omega
    subst this
    exact ⟨J, b30_2 (fun _ => b30_34) (fun h => absurd (nI_le (a := 12) (by omega) (by omega)) h), hD⟩
  | n + 1, e, J, h5, hD => by
    obtain ⟨J', r, hp⟩ := c30_in hT (by omega) (fun J hJ => c30_out hT n (e + 1) J (by omega) hJ) 6 0 J rfl hD
    refine ⟨J', b30_2 (fun h => absurd h (nI_ge (b := 12) (by omega) (by omega))) (fun _ => b30_8 ?_), hp⟩
    rw [nI_0] at r
    exact r
/-- fill of the table of sizes -/
theorem c30 (hT : TV I 2 3 4 cnt fld fty) : ∃ J', mm_Call l X 30 (d + 3) [.ref 8] (mm_Λ, I, J) mc ms (.inl none) (mm_Λ, I, J') ∧ SD cnt fld fty J 12 0 0 J' := by
  obtain ⟨J', r, hp⟩ := @c30_out l X d I mc ms cnt fld fty hT J 12 0 J rfl ⟨fun _ _ _ => rfl, fun s t' _ _ _ h => by omega, fun m t' c' k _ _ _ _ h => by omega⟩
  refine ⟨J', b30_0 ?_, hp⟩
  rw [nI_0] at r
  exact r
end SIZE
