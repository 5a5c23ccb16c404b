/-! ===== small methods: what they answer ===== -/
theorem nI_mul (a b : Nat) : nI a * nI b = nI (a * b) := (Int32.ofNat_mul a b).symm
theorem ix_in {n N : Nat} (h : n < N) (hN : N ≤ 2000) : vp_in (nI n) N := nI_in h (by omega)
theorem ix_cl {n : Nat} (h : n < 100000) : (nI n).toNatClampNeg = n := nI_clamp (by omega)
theorem ix4 (t c : Nat) : nI t * 4 + nI c = nI (4 * t + c) := by
  rw [show (4 : Int32) = nI 4 from rfl, nI_mul, nI_add, Nat.mul_comm]
theorem ix3 (t c : Nat) : nI t * 3 + nI c = nI (3 * t + c) := by
  rw [show (3 : Int32) = nI 3 from rfl, nI_mul, nI_add, Nat.mul_comm]
theorem ix5 (t c : Nat) : nI t * 5 + nI c = nI (5 * t + c) := by
  rw [show (5 : Int32) = nI 5 from rfl, nI_mul, nI_add, Nat.mul_comm]
theorem ix13 (t c : Nat) : nI t * 13 + nI c = nI (13 * t + c) := by
  rw [show (13 : Int32) = nI 13 from rfl, nI_mul, nI_add, Nat.mul_comm]
section LEAF
variable {l : Launch} {X : Nat × (Nat → Int32)} {d : Nat} {I : Nat → Nat → Int32} {J : Nat → Nat → Int64} {mc ms : Nat}
theorem c21 (t c : Nat) : mm_Call l X 21 d [.int (nI t), .int (nI c)] (mm_Λ, I, J) mc ms (.inl (some (.int (nI (4 * t + c))))) (mm_Λ, I, J) := by
  have h := @b21_0 l X d I J (nI t) (nI c) mc ms
  rw [ix4] at h
  exact h
theorem c19 {t : Nat} (ht : t < 6) : mm_Call l X 19 d [.ref 1, .int (nI t)] (mm_Λ, I, J) mc ms (.inl (some (.int (I 2 t)))) (mm_Λ, I, J) := by
  have h := @b19_0 l X d I J (nI t) mc ms (ix_in ht (by omega))
  rw [ix_cl (by omega)] at h
  exact h
theorem c24 {f : Nat} (hf : f < 24) : mm_Call l X 24 d [.ref 1, .int (nI f)] (mm_Λ, I, J) mc ms (.inl (some (.int (I 3 f)))) (mm_Λ, I, J) := by
  have h := @b24_0 l X d I J (nI f) mc ms (ix_in hf (by omega))
  rw [ix_cl (by omega)] at h
  exact h
theorem c26 {f k : Nat} (hf : f < 24) (hk : k < 3) : mm_Call l X 26 d [.ref 1, .int (nI f), .int (nI k)] (mm_Λ, I, J) mc ms (.inl (some (.int (I 4 (3 * f + k))))) (mm_Λ, I, J) := by
  have h := @b26_0 l X d I J (nI f) (nI k) mc ms (by rw [ix3]; exact ix_in (by omega) (by omega))
  rw [ix3, ix_cl (by omega)] at h
  exact h
theorem c27 {t e : Nat} (ht : t < 6) (he : e < 5) : mm_Call l X 27 d [.ref 5, .int (nI t), .int (nI e)] (mm_Λ, I, J) mc ms (.inl (some (.long (J 6 (5 * t + e))))) (mm_Λ, I, J) := by
  have h := @b27_0 l X d I J (nI t) (nI e) mc ms (by rw [ix5]; exact ix_in (by omega) (by omega))
  rw [ix5, ix_cl (by omega)] at h
  exact h
theorem c43 {f e : Nat} (hf : f < 24) (he : e < 5) : mm_Call l X 43 d [.ref 5, .int (nI f), .int (nI e)] (mm_Λ, I, J) mc ms (.inl (some (.long (J 7 (5 * f + e))))) (mm_Λ, I, J) := by
  have h := @b43_0 l X d I J (nI f) (nI e) mc ms (by rw [ix5]; exact ix_in (by omega) (by omega))
  rw [ix5, ix_cl (by omega)] at h
  exact h
theorem c33 {t s : Nat} (ht : t < 6) (hs : s < 13) : mm_Call l X 33 d [.ref 8, .int (nI t), .int (nI s)] (mm_Λ, I, J) mc ms (.inl (some (.long (J 9 (13 * t + s))))) (mm_Λ, I, J) := by
  have h := @b33_0 l X d I J (nI t) (nI s) mc ms (by rw [ix13]; exact ix_in (by omega) (by omega))
  rw [ix13, ix_cl (by omega)] at h
  exact h
theorem c34 {f k s : Nat} (hf : f < 24) (hk : k < 4) (hs : s < 13) : mm_Call l X 34 d [.ref 8, .int (nI f), .int (nI k), .int (nI s)] (mm_Λ, I, J) mc ms (.inl (some (.long (J 10 (13 * (4 * f + k) + s))))) (mm_Λ, I, J) := by
  have h := @b34_0 l X d I J (nI f) (nI k) (nI s) mc ms (by rw [ix4, ix13]; exact ix_in (by omega) (by omega))
  rw [ix4, ix13, ix_cl (by omega)] at h
  exact h
theorem c45 (p k : Nat) : mm_Call l X 45 d [.int (nI p), .int (nI k)] (mm_Λ, I, J) mc ms (.inl (some (.int (nI (4 * p + k + 1))))) (mm_Λ, I, J) := by
  have h := @b45_0 l X d I J (nI p) (nI k) mc ms
  rw [show (4 : Int32) = nI 4 from rfl, nI_mul, nI_add, nI_1] at h
  exact h
def cpI (a b : Int64) : Int64 := if b = 0 then 0 else if a ≤ 1000000000000000 / b then a * b else 1000000000000000
def csI (a b : Int64) : Int64 := if 1000000000000000 < a + b then 1000000000000000 else a + b
theorem lgc0 (x y : Int64) : lg_cmp x y = 0 ↔ x = y := by
  unfold lg_cmp
  constructor
  · intro h
    by_cases h1 : x > y
    · rw [if_pos h1] at h; exact absurd h (by decide)
    · rw [if_neg h1] at h
      by_cases h2 : x = y
      · exact h2
      · rw [if_neg h2] at h; exact absurd h (by decide)
  · intro h
    subst h
    rw [if_neg (fun q : x > x => Int64.lt_irrefl q), if_pos rfl]
theorem lgcle (x y : Int64) : lg_cmp x y ≤ 0 ↔ x ≤ y := by
  unfold lg_cmp
  by_cases h1 : x > y
  · rw [if_pos h1]
    exact ⟨fun h => absurd h (by decide), fun h => absurd h (Int64.not_le.mpr h1)⟩
  · rw [if_neg h1]
    have h2 : x ≤ y := Int64.not_lt.mp h1
    by_cases h3 : x = y
    · rw [if_pos h3]; exact ⟨fun _ => h2, fun _ => by decide⟩
    · rw [if_neg h3]; exact ⟨fun _ => h2, fun _ => by decide⟩
theorem c28 (a b : Int64) : mm_Call l X 28 d [.long a, .long b] (mm_Λ, I, J) mc ms (.inl (some (.long (cpI a b)))) (mm_Λ, I, J) := by
  unfold cpI
  refine b28_0 (fun h => ?_) (fun h => ?_)
  · have hb : ¬ b = 0 := fun q => h ((lgc0 b 0).mpr q)
    rw [if_neg hb]
    refine b28_8 hb (fun h1 => ?_) (fun h1 => ?_)
    · rw [if_pos ((lgcle _ _).mp h1)]
      exact b28_24 b28_27
    · rw [if_neg (fun q => h1 ((lgcle _ _).mpr q))]
      exact b28_18 b28_27
  · have hb : b = 0 := (lgc0 b 0).mp (Decidable.not_not.mp h)
    rw [if_pos hb]
    exact b28_6
theorem c29 (a b : Int64) : mm_Call l X 29 d [.long a, .long b] (mm_Λ, I, J) mc ms (.inl (some (.long (csI a b)))) (mm_Λ, I, J) := by
  exact b29_0
theorem c51 : mm_Call l X 51 d [.ref 11] (mm_Λ, I, J) mc ms (.inl (some (.int (I 11 1)))) (mm_Λ, I, J) := b51_0
theorem c48 : mm_Call l X 48 d [.ref 11] (mm_Λ, I, J) mc ms (.inl none) (mm_Λ, mm_set I 11 1 0, J) := b48_0
theorem c68 : mm_Call l X 68 d [.ref 19] (mm_Λ, I, J) mc ms (.inl (some (.int (I 19 4)))) (mm_Λ, I, J) := b68_0
theorem c74 : mm_Call l X 74 d [.ref 19] (mm_Λ, I, J) mc ms (.inl (some (.int (I 19 5)))) (mm_Λ, I, J) := b74_0
theorem c97 : mm_Call l X 97 d [.ref 24] (mm_Λ, I, J) mc ms (.inl (some (.int (I 24 4)))) (mm_Λ, I, J) := b97_0
theorem c98 : mm_Call l X 98 d [.ref 24] (mm_Λ, I, J) mc ms (.inl (some (.long (J 24 5)))) (mm_Λ, I, J) := b98_0
theorem c13 : mm_Call l X 13 d [.ref 0] (mm_Λ, I, J) mc ms (.inl (some (.int (I 0 8)))) (mm_Λ, I, J) := b13_0
theorem c14 : mm_Call l X 14 d [.ref 0] (mm_Λ, I, J) mc ms (.inl (some (.long (J 0 9)))) (mm_Λ, I, J) := b14_0
theorem c12 : mm_Call l X 12 d [.ref 19] (mm_Λ, I, J) mc ms (.inl none) (mm_Λ, mm_set (mm_set I 19 4 0) 19 5 0, J) := b12_0
theorem c11 : mm_Call l X 11 (d + 1) [.ref 0] (mm_Λ, I, J) mc ms (.inl none) (mm_Λ, mm_set (mm_set I 19 4 0) 19 5 0, J) := b11_0 c12 b11_7
/-- what is shown at a place -/
def atI (n : Int32) (f : Nat → Int32) (j : Int32) : Int32 := if j < 0 ∨ n ≤ j then -1 else f j.toNatClampNeg
theorem c10 (j : Int32) (hn : I 11 1 ≤ 121) : mm_Call l X 10 d [.ref 11, .int j] (mm_Λ, I, J) mc ms (.inl (some (.int (atI (I 11 1) (I 12) j)))) (mm_Λ, I, J) := by
  unfold atI
  refine b10_0 (fun h => ?_) (fun h => ?_)
  · rw [if_pos (Or.inl h)]
    exact b10_12 b10_22
  · refine b10_4 (fun h1 => ?_) (fun h1 => ?_)
    · rw [if_neg (fun q => q.elim h (fun q => Int32.not_le.mpr h1 q))]
      refine b10_16 ?_ b10_22
      intro q
      rcases q with q | q
      · exact h q
      · have h2 := Int32.lt_of_lt_of_le h1 hn
        obtain ⟨n, hn1, rfl⟩ := nI_of h
        rw [nI_clamp hn1] at q
        exact absurd h2 (nI_nlt (a := n) (b := 121) q hn1)
    · rw [if_pos (Or.inr (Int32.not_lt.mp h1))]
      exact b10_12 b10_22
theorem c9 (j : Int32) (hn : I 11 1 ≤ 121) : mm_Call l X 9 (d + 1) [.ref 0, .int j] (mm_Λ, I, J) mc ms (.inl (some (.int (atI (I 11 1) (I 12) j)))) (mm_Λ, I, J) := b9_0 (c10 j hn) b9_8
theorem c88 (a : Int32) : mm_Call l X 88 d [.int a] (mm_Λ, I, J) mc ms (.inl (some (.int (if a = -1 then -2 else if a = -2 then -1 else a)))) (mm_Λ, I, J) := by
  by_cases h2 : a = -2
  · subst h2
    exact b88_0 (mm_lookup (off := 30) (tgt := 31) d88_1 (by decide) (by decide) (by decide) b88_31)
  · by_cases h1 : a = -1
    · subst h1
      exact b88_0 (mm_lookup (off := 27) (tgt := 28) d88_1 (by decide) (by decide) (by decide) b88_28)
    · rw [if_neg h1, if_neg h2]
      refine b88_0 (mm_lookup (off := 32) (tgt := 33) d88_1 (by decide) ?_ (by decide) b88_33)
      show Op.lookupswitch.offset [(-2, 30), (-1, 27)] 32 a.toInt = 32
      rw [lv_osw h2 (by decide), lv_osw h1 (by decide)]
      rfl
end LEAF
