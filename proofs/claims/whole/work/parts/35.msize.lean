/-! ===== the reference's table of sizes ===== -/
theorem sumP_zero {g : Nat → Nat} : ∀ (n p : Nat), (∀ i, p ≤ i → i < p + n → g i = 0) → sumP g n p = 0
  | 0, _, _ => rfl
  | n + 1, p, h => by rw [sumP, h p (Nat.le_refl _) (by omega), sumP_zero n (p + 1) (fun i h1 h2 => h i (by omega) (by omega))]
theorem sumP_single {g : Nat → Nat} (i0 : Nat) : ∀ (n p : Nat), p ≤ i0 → i0 < p + n → (∀ i, p ≤ i → i < p + n → i ≠ i0 → g i = 0) → sumP g n p = g i0
  | 0, p, h1, h2, _ => by omega
  | n + 1, p, h1, h2, h => by
    rw [sumP]
    by_cases hp : p = i0
    · subst hp
      rw [sumP_zero n (p + 1) (fun i a b => h i (by omega) (by omega) (by omega)), Nat.add_zero]
    · rw [h p (Nat.le_refl _) (by omega) hp, sumP_single i0 n (p + 1) (by omega) (by omega) (fun i a b c => h i (by omega) (by omega) c), Nat.zero_add]
theorem sumP_mul {g : Nat → Nat} (a : Nat) : ∀ (n p : Nat), sumP (fun i => a * g i) n p = a * sumP g n p
  | 0, _ => by rw [sumP, sumP, Nat.mul_zero]
  | n + 1, p => by rw [sumP, sumP, sumP_mul a n (p + 1), Nat.mul_add]
def by0 (S : Nat → Nat → Nat) (fld fty : Nat → Nat) (f x : Nat) : Nat := if 0 < fld f then S x (fty (3 * f)) else if x = 0 then 1 else 0
def by1 (S : Nat → Nat → Nat) (fld fty : Nat → Nat) (f x y : Nat) : Nat := if 1 < fld f then by0 S fld fty f x * S y (fty (3 * f + 1)) else if y = 0 then by0 S fld fty f x else 0
def by3 (S : Nat → Nat → Nat) (fld fty : Nat → Nat) (f x y z : Nat) : Nat := if 2 < fld f then by1 S fld fty f x y * S z (fty (3 * f + 2)) else if z = 0 then by1 S fld fty f x y else 0
def sum3 (S : Nat → Nat → Nat) (fld fty : Nat → Nat) (f n : Nat) : Nat := sumP (fun x => sumP (fun y => by3 S fld fty f x y (n - x - y)) (n + 1 - x) 0) (n + 1) 0
theorem wW_1 {S : Nat → Nat → Nat} {fld fty : Nat → Nat} {f : Nat} (h0 : ∀ t, S 0 t = 0) (n : Nat) : wW S fld fty f 1 n = S n (fty (3 * f + (fld f - 1))) := by
  rw [wW]
  rcases Nat.eq_zero_or_pos n with hn | hn
  · subst hn
    rw [sumP, h0]
  · rw [sumP_single n n 1 hn (by omega) (fun i h1 h2 h3 => by rw [wW, if_neg (by omega), Nat.mul_zero]), wW, Nat.sub_self, if_pos rfl, Nat.mul_one]
theorem sum3_wW {S : Nat → Nat → Nat} {fld fty : Nat → Nat} {f : Nat} (h0 : ∀ t, S 0 t = 0) (h3 : fld f ≤ 3) (n : Nat) : sum3 S fld fty f n = wW S fld fty f (fld f) n := by
  unfold sum3
  rcases (show fld f = 0 ∨ fld f = 1 ∨ fld f = 2 ∨ fld f = 3 by omega) with hf | hf | hf | hf
  · -- no fields
    rw [hf, wW]
    have e : ∀ x y z, by3 S fld fty f x y z = if z = 0 then if y = 0 then if x = 0 then 1 else 0 else 0 else 0 := fun x y z => by
      simp [by3, by1, by0, hf]
    rw [sumP_single 0 (n + 1) 0 (Nat.le_refl _) (by omega) (fun x _ hx hne => sumP_zero _ _ fun y _ hy => by rw [e]; simp [hne])]
    rw [sumP_single 0 (n + 1 - 0) 0 (Nat.le_refl _) (by omega) (fun y _ hy hne => by rw [e]; simp [hne])]
    rw [e, Nat.sub_zero, Nat.sub_zero, if_pos rfl, if_pos rfl]
  · -- one
    rw [hf, wW_1 h0, hf]
    have e : ∀ x y z, by3 S fld fty f x y z = if z = 0 then if y = 0 then S x (fty (3 * f)) else 0 else 0 := fun x y z => by
      simp [by3, by1, by0, hf]
    rw [sumP_single n (n + 1) 0 (Nat.zero_le _) (by omega) (fun x _ hx hne => ?_)]
    · rw [sumP_single 0 (n + 1 - n) 0 (Nat.le_refl _) (by omega) (fun y _ hy hne => by omega), e, Nat.sub_self, Nat.sub_zero, if_pos rfl, if_pos rfl]
      rfl
    · refine sumP_zero _ _ fun y _ hy => ?_
      rw [e]
      by_cases h1 : n - x - y = 0
      · rw [if_pos h1, if_neg (by omega)]
      · rw [if_neg h1]
  · -- two
    rw [hf, wW, hf]
    have e : ∀ x y z, by3 S fld fty f x y z = if z = 0 then S x (fty (3 * f)) * S y (fty (3 * f + 1)) else 0 := fun x y z => by
      simp [by3, by1, by0, hf]
    have e2 : ∀ x, x ≤ n → sumP (fun y => by3 S fld fty f x y (n - x - y)) (n + 1 - x) 0 = S x (fty (3 * f)) * S (n - x) (fty (3 * f + 1)) := by
      intro x hx
      rw [sumP_single (n - x) (n + 1 - x) 0 (Nat.zero_le _) (by omega) (fun y _ hy hne => by rw [e, if_neg (by omega)]), e, Nat.sub_self, if_pos rfl]
    rw [sumP, e2 0 (Nat.zero_le _), h0, Nat.zero_mul, Nat.zero_add]
    refine sumP_congr _ _ fun x h1 h2 => ?_
    rw [e2 x (by omega), wW_1 h0, hf]
    rfl
  · -- three
    rw [hf, wW, hf]
    have e : ∀ x y z, by3 S fld fty f x y z = S x (fty (3 * f)) * (S y (fty (3 * f + 1)) * S z (fty (3 * f + 2))) := fun x y z => by
      simp [by3, by1, by0, hf, Nat.mul_assoc]
    have e2 : ∀ x, x ≤ n → sumP (fun y => by3 S fld fty f x y (n - x - y)) (n + 1 - x) 0 = S x (fty (3 * f)) * wW S fld fty f 2 (n - x) := by
      intro x hx
      rw [wW, hf, sumP_congr _ _ (fun y _ _ => e x y (n - x - y)), sumP_mul]
      congr 1
      rw [show n + 1 - x = (n - x) + 1 by omega, sumP, h0, Nat.zero_mul, Nat.zero_add]
      exact sumP_congr _ _ fun y h1 h2 => by rw [wW_1 h0, hf]
    rw [sumP, e2 0 (Nat.zero_le _), h0, Nat.zero_mul, Nat.zero_add]
    refine sumP_congr _ _ fun x h1 h2 => ?_
    rw [e2 x (by omega)]
    rfl
section MSIZE
variable {l : Launch} {X : Nat × (Nat → Int32)} {d : Nat} {I : Nat → Nat → Int32} {J : Nat → Nat → Int64} {mc ms : Nat} {cnt fld fty : Nat → Nat}
/-- the reference's table is right up to size n; at n up to type t -/
def MS (cnt fld fty : Nat → Nat) (J0 : Nat → Nat → Int64) (n t : Nat) (J : Nat → Nat → Int64) : Prop :=
  (∀ p, p ≠ 31 → J p = J0 p) ∧ ∀ s t', 1 ≤ s → s ≤ 12 → t' < 6 → (s < n ∨ (s = n ∧ t' < t)) → J 31 (13 * t' + s) = lN (SN cnt fld fty s t')
theorem jx13 (t c : Nat) : 13 * nI t + nI c = nI (13 * t + c) := by
  rw [show (13 : Int32) = nI 13 from rfl, nI_mul, nI_add]
theorem SN_0 (cnt fld fty : Nat → Nat) (t : Nat) : SN cnt fld fty 0 t = 0 := rfl
theorem c115 {J0 : Nat → Nat → Int64} {n t u x : Nat} (hS : MS cnt fld fty J0 n t J) (hu : u < 6) (hx : x < n) (hn : n ≤ 13) : mm_Call l X 115 d [.ref 26, .int (nI u), .int (nI x)] (mm_Λ, I, J) mc ms (.inl (some (.long (lN (SN cnt fld fty x u))))) (mm_Λ, I, J) := by
  rcases Nat.eq_zero_or_pos x with h0 | h0
  · subst h0
    exact b115_0 (fun _ => b115_11 b115_26) (fun h => absurd (by decide) h)
  · rw [← hS.2 x u h0 (by omega) hu (Or.inl hx)]
    have r := @b115_15 l X d I J (nI u) (nI x) mc ms (.inl (some (.long (J 31 (13 * u + x))))) (mm_Λ, I, J) (by rw [jx13]; exact ix_in (by omega) (by omega)) (by rw [jx13, ix_cl (by omega)]; exact b115_26)
    exact b115_0 (fun h => absurd h (nI_nlt (b := 1) (by omega) (by omega))) (fun _ => b115_5 (fun _ => r) (fun h => absurd (nI_le (b := 12) (by omega) (by omega)) h))
theorem c114 (hT : TV I 27 28 29 cnt fld fty) {J0 : Nat → Nat → Int64} {n t u c x y z : Nat} (hS : MS cnt fld fty J0 n t J) (hn : n ≤ 13) (hf : 4 * u + c < 24) (hx : x < n) (hy : y < n) (hz : z < n) :
    mm_Call l X 114 (d + 1) [.ref 26, .int (nI u), .int (nI c), .int (nI x), .int (nI y), .int (nI z)] (mm_Λ, I, J) mc ms (.inl (some (.long (lN (by3 (SN cnt fld fty) fld fty (4 * u + c) x y z))))) (mm_Λ, I, J) := by
  have h3 := (hT.2.1 _ hf).2
  have hI : I 28 (4 * nI u + nI c).toNatClampNeg = nI (fld (4 * u + c)) := by
    rw [jx4, ix_cl (by omega)]; exact (hT.2.1 _ hf).1
  -- the third factor
  have s3 : ∀ (v : Nat) (w : Int64), mm_Run l X 114 (d + 1) 79 [.ref 26, .int (nI u), .int (nI c), .int (nI x), .int (nI y), .int (nI z), .int (nI (fld (4 * u + c))), .long w, .null] [.long (lN v)] (mm_Λ, I, J) mc ms (.inl (some (.long (lN (if 2 < fld (4 * u + c) then v * SN cnt fld fty z (fty (3 * (4 * u + c) + 2)) else if z = 0 then v else 0))))) (mm_Λ, I, J) := by
    intro v w
    refine b114_79 (fun h => ?_) (fun h => ?_)
    · have h2 : ¬ 2 < fld (4 * u + c) := fun q => nI_ge (b := fld (4 * u + c)) (a := 2) q (by omega) h
      rw [if_neg h2]
      refine b114_106 (fun h0 => ?_) (fun h0 => ?_)
      · rw [if_neg (fun q => h0 (by rw [q, nI_0]))]
        exact b114_116 b114_117
      · rw [if_pos ((nI_eq (by omega) (by omega)).mp ((Decidable.not_not.mp h0).trans nI_0.symm))]
        exact b114_111 b114_117
    · have h2 : 2 < fld (4 * u + c) := Nat.lt_of_not_le fun q => h (nI_le (b := 2) q (by omega))
      rw [if_pos h2, ← lN_mul]
      have h6 := (hT.2.2 _ hf 2 h2).2
      exact b114_87 (c107 hT hf (k := 2) h2) (b114_97 (c115 hS h6 hz hn) (b114_102 b114_117))
  have s2 : ∀ (v : Nat), mm_Run l X 114 (d + 1) 41 [.ref 26, .int (nI u), .int (nI c), .int (nI x), .int (nI y), .int (nI z), .int (nI (fld (4 * u + c))), .null, .null] [.long (lN v)] (mm_Λ, I, J) mc ms (.inl (some (.long (lN (if 2 < fld (4 * u + c) then (if 1 < fld (4 * u + c) then v * SN cnt fld fty y (fty (3 * (4 * u + c) + 1)) else if y = 0 then v else 0) * SN cnt fld fty z (fty (3 * (4 * u + c) + 2)) else if z = 0 then (if 1 < fld (4 * u + c) then v * SN cnt fld fty y (fty (3 * (4 * u + c) + 1)) else if y = 0 then v else 0) else 0))))) (mm_Λ, I, J) := by
    intro v
    refine b114_41 (fun h => ?_) (fun h => ?_)
    · have h2 : ¬ 1 < fld (4 * u + c) := fun q => nI_ge (b := fld (4 * u + c)) (a := 1) q (by omega) h
      rw [if_neg h2]
      refine b114_68 (fun h0 => ?_) (fun h0 => ?_)
      · rw [if_neg (show ¬ y = 0 from fun q => h0 (by rw [q, nI_0]))]
        exact b114_78 (s3 0 _)
      · rw [if_pos (show y = 0 from (nI_eq (by omega) (by omega)).mp ((Decidable.not_not.mp h0).trans nI_0.symm))]
        exact b114_73 (s3 v _)
    · have h2 : 1 < fld (4 * u + c) := Nat.lt_of_not_le fun q => h (nI_le (b := 1) q (by omega))
      rw [if_pos h2]
      have h6 := (hT.2.2 _ hf 1 h2).2
      refine b114_49 (c107 hT hf (k := 1) h2) (b114_59 (c115 hS h6 hy hn) (b114_64 ?_))
      rw [lN_mul]
      exact s3 _ _
  unfold by3 by1
  refine b114_0 (by rw [jx4]; exact ix_in (by omega) (by omega)) (fun h => ?_) (fun h => ?_)
  · rw [hI] at h ⊢
    have h2 : ¬ 0 < fld (4 * u + c) := fun q => nI_nle q (by omega) h
    rw [by0, if_neg h2]
    refine b114_32 (fun h0 => ?_) (fun h0 => ?_)
    · rw [if_neg (show ¬ x = 0 from fun q => h0 (by rw [q, nI_0]))]
      exact b114_40 (s2 0)
    · rw [if_pos (show x = 0 from (nI_eq (by omega) (by omega)).mp ((Decidable.not_not.mp h0).trans nI_0.symm))]
      exact b114_36 (s2 1)
  · rw [hI] at h ⊢
    have h2 : 0 < fld (4 * u + c) := by
      rcases Nat.eq_zero_or_pos (fld (4 * u + c)) with q | q
      · exact absurd (by rw [q, nI_0]; exact Int32.le_refl 0) h
      · exact q
    rw [by0, if_pos h2]
    have h6 := (hT.2.2 _ hf 0 h2).2
    exact b114_17 (c107 hT hf (k := 0) h2) (b114_25 (c115 hS h6 hx hn) (b114_29 (s2 _)))
theorem c113_y (hT : TV I 27 28 29 cnt fld fty) {J0 : Nat → Nat → Int64} {n t u c x : Nat} (hS : MS cnt fld fty J0 (n + 1) t J) (hn : n < 12) (hf : 4 * u + c < 24) (hx : x ≤ n) {o : mm_O} {σ' : mm_S} (tot : Nat)
    (hr : mm_Run l X 113 (d + 2) 6 [.ref 26, .int (nI u), .int (nI c), .int (nI (n + 1)), .long (lN tot), .null, .int (nI (x + 1)), .null] [] (mm_Λ, I, J) mc ms o σ') : ∀ (m y acc : Nat), y + m = n + 1 - x → acc + sumP (fun y => by3 (SN cnt fld fty) fld fty (4 * u + c) x y (n - x - y)) m y = tot →
    mm_Run l X 113 (d + 2) 15 [.ref 26, .int (nI u), .int (nI c), .int (nI (n + 1)), .long (lN acc), .null, .int (nI x), .int (nI y)] [] (mm_Λ, I, J) mc ms o σ'
  | 0, y, acc, hy, ht => by
    refine b113_15 (fun _ => b113_54 ?_) (fun h => absurd (by rw [nI_add]; exact nI_le (by omega) (by omega)) h)
    rw [nI_1, show acc = tot from ht]
    exact hr
  | m + 1, y, acc, hy, ht => by
    have e : mm_Call l X 114 (d + 1) [.ref 26, .int (nI u), .int (nI c), .int (nI x), .int (nI y), .int (nI (n + 1) - 1 - nI x - nI y)] (mm_Λ, I, J) 0 0 (.inl (some (.long (lN (by3 (SN cnt fld fty) fld fty (4 * u + c) x y (n - x - y)))))) (mm_Λ, I, J) := by
      rw [nI_pred, nI_sub (by omega), nI_sub (by omega)]
      exact c114 hT hS (by omega) hf (by omega) (by omega) (by omega)
    refine b113_15 (fun h => absurd h (by rw [nI_add]; exact nI_ge (by omega) (by omega))) (fun _ => b113_24 e (b113_45 ?_))
    rw [lN_add, nI_1]
    exact c113_y hT hS hn hf hx tot hr m (y + 1) _ (by omega) (by rw [← ht, sumP, Nat.add_assoc])
theorem c113_x (hT : TV I 27 28 29 cnt fld fty) {J0 : Nat → Nat → Int64} {n t u c : Nat} (hS : MS cnt fld fty J0 (n + 1) t J) (hn : n < 12) (hf : 4 * u + c < 24) : ∀ (m x acc : Nat), x + m = n + 1 →
    mm_Run l X 113 (d + 2) 6 [.ref 26, .int (nI u), .int (nI c), .int (nI (n + 1)), .long (lN acc), .null, .int (nI x), .null] [] (mm_Λ, I, J) mc ms (.inl (some (.long (lN (acc + sumP (fun x => sumP (fun y => by3 (SN cnt fld fty) fld fty (4 * u + c) x y (n - x - y)) (n + 1 - x) 0) m x))))) (mm_Λ, I, J)
  | 0, x, acc, hx => by
    exact b113_6 (fun _ => b113_60) (fun h => absurd (nI_le (by omega) (by omega)) h)
  | m + 1, x, acc, hx => by
    refine b113_6 (fun h => absurd h (nI_ge (by omega) (by omega))) (fun _ => b113_12 ?_)
    have r := c113_x hT hS hn hf m (x + 1) (acc + sumP (fun y => by3 (SN cnt fld fty) fld fty (4 * u + c) x y (n - x - y)) (n + 1 - x) 0) (by omega)
    rw [Nat.add_assoc] at r
    have q := c113_y hT hS hn hf (x := x) (by omega) _ r (n + 1 - x) 0 acc (by omega) rfl
    rw [nI_0] at q
    exact q
/-- sizedWith -/
theorem c113 (hT : TV I 27 28 29 cnt fld fty) {J0 : Nat → Nat → Int64} {n t u c : Nat} (hS : MS cnt fld fty J0 (n + 1) t J) (hn : n < 12) (hf : 4 * u + c < 24) :
    mm_Call l X 113 (d + 2) [.ref 26, .int (nI u), .int (nI c), .int (nI (n + 1))] (mm_Λ, I, J) mc ms (.inl (some (.long (lN (wW (SN cnt fld fty) fld fty (4 * u + c) (fld (4 * u + c)) n))))) (mm_Λ, I, J) := by
  rw [← sum3_wW (SN_0 cnt fld fty) (hT.2.1 _ hf).2, sum3]
  have r := @c113_x l X d I J mc ms cnt fld fty hT J0 n t u c hS hn hf (n + 1) 0 0 (by omega)
  rw [nI_0, Nat.zero_add] at r
  exact b113_0 r
theorem c112_c (hT : TV I 27 28 29 cnt fld fty) {J0 : Nat → Nat → Int64} {n t : Nat} (hn : n < 12) (ht : t < 6) {Q : (Nat → Nat → Int64) → Prop}
    (ho : ∀ J, MS cnt fld fty J0 (n + 1) (t + 1) J → ∃ Jf, mm_Run l X 112 (d + 3) 10 [.ref 26, .int (nI (n + 1)), .int (nI (t + 1)), .null, .null, .null] [] (mm_Λ, I, J) mc ms (.inl none) (mm_Λ, I, Jf) ∧ Q Jf) : ∀ (m c acc : Nat), c + m = cnt t → MS cnt fld fty J0 (n + 1) t J →
    acc + sumP (fun c => wW (SN cnt fld fty) fld fty (4 * t + c) (fld (4 * t + c)) n) m c = SN cnt fld fty (n + 1) t →
    ∃ Jf, mm_Run l X 112 (d + 3) 21 [.ref 26, .int (nI (n + 1)), .int (nI t), .long (lN acc), .null, .int (nI c)] [] (mm_Λ, I, J) mc ms (.inl none) (mm_Λ, I, Jf) ∧ Q Jf
  | 0, c, acc, hm, hS, hs => by
    have h4 := (hT.1 t ht).2
    obtain ⟨Jf, r, hq⟩ := ho (mm_set J 31 (13 * t + (n + 1)) (lN acc)) ⟨fun p hp => by rw [mm_set_ne hp]; exact hS.1 p hp, fun s t' h1 h2 h3' hd => by
      rw [mm_set_eq]
      dsimp only
      by_cases hh : s = n + 1 ∧ t' = t
      · obtain ⟨rfl, rfl⟩ := hh
        rw [if_pos rfl]
        exact congrArg lN (by rw [← hs]; rfl)
      · rw [if_neg (by omega)]
        exact hS.2 s t' h1 h2 h3' (by omega)⟩
    refine ⟨Jf, b112_21 (ix_in ht (by omega)) (fun _ => b112_49 (by rw [jx13]; exact ix_in (by omega) (by omega)) ?_) (fun h => ?_), hq⟩
    · rw [jx13, ix_cl (by omega), nI_1]
      exact r
    · rw [ix_cl (by omega), (hT.1 t ht).1] at h
      exact absurd (nI_le (by omega) (by omega)) h
  | m + 1, c, acc, hm, hS, hs => by
    have h4 := (hT.1 t ht).2
    obtain ⟨Jf, r, hq⟩ := c112_c hT hn ht ho m (c + 1) (acc + wW (SN cnt fld fty) fld fty (4 * t + c) (fld (4 * t + c)) n) (by omega) hS (by rw [← hs, sumP, Nat.add_assoc])
    refine ⟨Jf, b112_21 (ix_in ht (by omega)) (fun h => ?_) (fun _ => b112_32 (c113 hT hS hn (by omega)) (b112_41 ?_)), hq⟩
    · rw [ix_cl (by omega), (hT.1 t ht).1] at h
      exact absurd h (nI_ge (by omega) (by omega))
    · rw [lN_add, nI_1]
      exact r
theorem c112_in (hT : TV I 27 28 29 cnt fld fty) {J0 : Nat → Nat → Int64} {n : Nat} (hn : n < 12)
    (ho : ∀ J, MS cnt fld fty J0 (n + 2) 0 J → ∃ J', mm_Run l X 112 (d + 3) 2 [.ref 26, .int (nI (n + 2)), .null, .null, .null, .null] [] (mm_Λ, I, J) mc ms (.inl none) (mm_Λ, I, J') ∧ MS cnt fld fty J0 13 0 J') :
    ∀ (m t : Nat) (J : Nat → Nat → Int64), t + m = 6 → MS cnt fld fty J0 (n + 1) t J → ∃ J', mm_Run l X 112 (d + 3) 10 [.ref 26, .int (nI (n + 1)), .int (nI t), .null, .null, .null] [] (mm_Λ, I, J) mc ms (.inl none) (mm_Λ, I, J') ∧ MS cnt fld fty J0 13 0 J'
  | 0, t, J, h6, hD => by
    obtain ⟨J', r, hp⟩ := ho J ⟨hD.1, fun s t' a b c h => hD.2 s t' a b c (by omega)⟩
    refine ⟨J', b112_10 (fun _ => b112_67 ?_) (fun h => absurd (nI_le (a := 6) (by omega) (by omega)) h), hp⟩
    rw [nI_1]
    exact r
  | m + 1, t, J, h6, hD => by
    obtain ⟨J', r, hp⟩ := c112_c hT hn (t := t) (by omega) (fun J' hJ' => c112_in hT hn ho m (t + 1) J' (by omega) hJ') (cnt t) 0 0 (by omega) hD (by rw [Nat.zero_add]; exact (SN_succ cnt fld fty n t).symm)
    refine ⟨J', b112_10 (fun h => absurd h (nI_ge (b := 6) (by omega) (by omega))) (fun _ => b112_16 ?_), hp⟩
    rw [nI_0] at r
    exact r
theorem c112_out (hT : TV I 27 28 29 cnt fld fty) {J0 : Nat → Nat → Int64} : ∀ (m n : Nat) (J : Nat → Nat → Int64), n + m = 12 → MS cnt fld fty J0 (n + 1) 0 J →
    ∃ J', mm_Run l X 112 (d + 3) 2 [.ref 26, .int (nI (n + 1)), .null, .null, .null, .null] [] (mm_Λ, I, J) mc ms (.inl none) (mm_Λ, I, J') ∧ MS cnt fld fty J0 13 0 J'
  | 0, n, J, h5, hD => by
    have : n = 12 := by omega
    subst this
    exact ⟨J, b112_2 (fun _ => b112_73) (fun h => absurd (nI_le (a := 13) (by omega) (by omega)) h), hD⟩
  | m + 1, n, J, h5, hD => by
    obtain ⟨J', r, hp⟩ := c112_in hT (n := n) (by omega) (fun J hJ => c112_out hT m (n + 1) J (by omega) hJ) 6 0 J rfl hD
    refine ⟨J', b112_2 (fun h => absurd h (nI_ge (b := 13) (by omega) (by omega))) (fun _ => b112_8 ?_), hp⟩
    rw [nI_0] at r
    exact r
/-- findSizes -/
theorem c112 (hT : TV I 27 28 29 cnt fld fty) : ∃ J', mm_Call l X 112 (d + 3) [.ref 26] (mm_Λ, I, J) mc ms (.inl none) (mm_Λ, I, J') ∧ MS cnt fld fty J 13 0 J' := by
  obtain ⟨J', r, hp⟩ := @c112_out l X d I mc ms cnt fld fty hT J 12 0 J rfl ⟨fun _ _ => rfl, fun s t' _ _ _ h => by omega⟩
  exact ⟨J', b112_0 r, hp⟩
end MSIZE
