/-! ===== paths ===== -/
def pz : Nat → Nat → Bool
  | 0, p => p == 0
  | n + 1, p => p == 0 || (p % 4 != 0 && pz n (p / 4))
/-- a path of at most four steps -/
def isPb (p : Nat) : Bool := decide (p < 256) && pz 4 p
def stp : Nat → Nat → Nat
  | 0, _ => 0
  | n + 1, p => if p = 0 then 0 else 1 + stp n (p / 4)
def bst : Nat → Nat → Nat
  | 0, _ => 0
  | n + 1, p => if p = 0 then 0 else 1 + bst n ((p - 1) / 4)
def bok : Nat → Nat → Bool
  | 0, _ => true
  | n + 1, p => p == 0 || (decide ((p - 1) % 4 < 3) && bok n ((p - 1) / 4))
theorem nI_div4 {a : Nat} (h : a < 2 ^ 31) : nI a / 4 = nI (a / 4) := by
  have hq : a / 4 < 2 ^ 31 := by omega
  rw [← Int32.toInt_inj, Int32.toInt_div, nI_toInt h, nI_toInt hq, show (4 : Int32).toInt = 4 from rfl, show ((a : Int).tdiv 4) = ((a / 4 : Nat) : Int) from rfl]
  rw [Int.bmod_eq_of_le] <;> omega
theorem nI_rem4 {a : Nat} (h : a < 2 ^ 31) : nI a - nI a / 4 * 4 = nI (a % 4) := by
  rw [nI_div4 h, show (4 : Int32) = nI 4 from rfl, nI_mul, nI_sub (by omega)]
  congr 1; omega
theorem nI_and3 : ∀ p, p < 256 → nI p &&& 3 = nI (p % 4) := by decide +kernel
theorem nI_shr2 : ∀ p, p < 256 → nI p >>> (2 &&& 31) = nI (p / 4) := by decide +kernel
section PATHS
variable {l : Launch} {X : Nat × (Nat → Int32)} {d : Nat} {I : Nat → Nat → Int32} {J : Nat → Nat → Int64} {mc ms : Nat}
theorem c66_loop {x0 : Int32} : ∀ (n p : Nat), p < 4 ^ n → p < 256 → mm_Run l X 66 d 15 [.int x0, .int (nI p)] [] (mm_Λ, I, J) mc ms (.inl (some (.int (if pz n p = true then 1 else 0)))) (mm_Λ, I, J)
  | 0, p, h, h2 => by
    have : p = 0 := by simpa using h
    subst this
    exact b66_15 (fun _ => b66_34) (fun q => absurd (by rw [nI_0]; exact Int32.le_refl 0) q)
  | n + 1, p, h, h2 => by
    rcases Nat.eq_zero_or_pos p with h0 | h0
    · subst h0
      exact b66_15 (fun _ => b66_34) (fun q => absurd (by rw [nI_0]; exact Int32.le_refl 0) q)
    · refine b66_15 (fun q => absurd q (nI_nle h0 (by omega))) (fun _ => b66_19 (fun q => ?_) (fun q => ?_))
      · rw [nI_and3 p h2] at q
        have hp : p % 4 ≠ 0 := fun z => q (by rw [z, nI_0])
        have r := c66_loop (x0 := x0) n (p / 4) (by rw [Nat.pow_succ] at h; omega) (by omega)
        have e : pz (n + 1) p = pz n (p / 4) := by
          have h1 : (p == 0) = false := by simp; omega
          have h2 : (p % 4 != 0) = true := by simp [hp]
          rw [pz, h1, h2]; rfl
        rw [e]
        refine b66_27 ?_
        rw [nI_shr2 p h2]
        exact r
      · have q' := Decidable.not_not.mp q
        rw [nI_and3 p h2, ← nI_0] at q'
        have hp : p % 4 = 0 := (nI_eq (by omega) (by omega)).mp q'
        have e : pz (n + 1) p = false := by
          have h1 : (p == 0) = false := by simp; omega
          have h2 : (p % 4 != 0) = false := by simp [hp]
          rw [pz, h1, h2]; rfl
        rw [e]
        exact b66_25
/-- isPath -/
theorem c66 (p : Nat) (hp : p < 2 ^ 31) : mm_Call l X 66 d [.int (nI p)] (mm_Λ, I, J) mc ms (.inl (some (.int (if isPb p = true then 1 else 0)))) (mm_Λ, I, J) := by
  refine b66_0 (fun q => absurd q (nI_pos hp)) (fun _ => b66_4 (fun q => ?_) (fun q => ?_))
  · have h : p < 256 := Nat.lt_of_not_le fun z => nI_nlt (a := p) (b := 256) z hp q
    have e : isPb p = pz 4 p := by simp [isPb, h]
    rw [e]
    exact b66_13 (c66_loop 4 p (by omega) h)
  · have h : ¬ p < 256 := fun z => q (nI_lt (b := 256) z (by omega))
    have e : isPb p = false := by simp [isPb, h]
    rw [e]
    exact b66_11
theorem c66_neg {x : Int32} (h : x < 0) : mm_Call l X 66 d [.int x] (mm_Λ, I, J) mc ms (.inl (some (.int 0))) (mm_Λ, I, J) := b66_0 (fun _ => b66_11) (fun q => absurd h q)
theorem c85_loop {x0 : Int32} : ∀ (n p a : Nat), p < 4 ^ n → p < 256 → a + n < 1000 → mm_Run l X 85 d 4 [.int x0, .int (nI a), .int (nI p)] [] (mm_Λ, I, J) mc ms (.inl (some (.int (nI (a + stp n p))))) (mm_Λ, I, J)
  | 0, p, a, h, h2, h3 => by
    have : p = 0 := by simpa using h
    subst this
    exact b85_4 (fun _ => b85_18) (fun q => absurd (by rw [nI_0]; exact Int32.le_refl 0) q)
  | n + 1, p, a, h, h2, h3 => by
    rcases Nat.eq_zero_or_pos p with h0 | h0
    · subst h0
      exact b85_4 (fun _ => b85_18) (fun q => absurd (by rw [nI_0]; exact Int32.le_refl 0) q)
    · refine b85_4 (fun q => absurd q (nI_nle h0 (by omega))) (fun _ => b85_8 ?_)
      have r := c85_loop (x0 := x0) n (p / 4) (a + 1) (by rw [Nat.pow_succ] at h; omega) (by omega) (by omega)
      rw [nI_shr2 p h2, nI_1, stp, if_neg (by omega), ← Nat.add_assoc]
      exact r
/-- steps -/
theorem c85 (p : Nat) (hp : p < 256) : mm_Call l X 85 d [.int (nI p)] (mm_Λ, I, J) mc ms (.inl (some (.int (nI (stp 4 p))))) (mm_Λ, I, J) := by
  have r := @c85_loop l X d I J mc ms (nI p) 4 p 0 (by omega) hp (by omega)
  rw [nI_0, Nat.zero_add] at r
  exact b85_0 r
theorem c120_loop {x0 : Int32} : ∀ (n p a : Nat), p < 4 ^ n → p < 2 ^ 31 → a + n < 1000 → mm_Run l X 120 d 4 [.int x0, .int (nI a), .int (nI p)] [] (mm_Λ, I, J) mc ms (.inl (some (.int (nI (a + bst n p))))) (mm_Λ, I, J)
  | 0, p, a, h, h2, h3 => by
    have : p = 0 := by simpa using h
    subst this
    exact b120_4 (fun _ => b120_20) (fun q => absurd (by rw [nI_0]; exact Int32.le_refl 0) q)
  | n + 1, p, a, h, h2, h3 => by
    rcases Nat.eq_zero_or_pos p with h0 | h0
    · subst h0
      exact b120_4 (fun _ => b120_20) (fun q => absurd (by rw [nI_0]; exact Int32.le_refl 0) q)
    · refine b120_4 (fun q => absurd q (nI_nle h0 (by omega))) (fun _ => b120_8 ?_)
      have r := c120_loop (x0 := x0) n ((p - 1) / 4) (a + 1) (by rw [Nat.pow_succ] at h; omega) (by omega) (by omega)
      obtain ⟨p', rfl⟩ : ∃ p', p = p' + 1 := ⟨p - 1, by omega⟩
      rw [nI_pred, nI_div4 (by omega), nI_1, bst, if_neg (by omega), ← Nat.add_assoc]
      exact r
/-- the reference's steps -/
theorem c120 (p : Nat) (hp : p < 2 ^ 31) : mm_Call l X 120 d [.int (nI p)] (mm_Λ, I, J) mc ms (.inl (some (.int (nI (bst 16 p))))) (mm_Λ, I, J) := by
  have r := @c120_loop l X d I J mc ms (nI p) 16 p 0 (by omega) hp (by omega)
  rw [nI_0, Nat.zero_add] at r
  exact b120_0 r
theorem c127_loop {x0 : Int32} : ∀ (n p : Nat) (g : Bool), p < 4 ^ n → p < 2 ^ 31 → mm_Run l X 127 (d + 1) 20 [.int x0, .int (if g = true then 1 else 0), .int (nI p)] [] (mm_Λ, I, J) mc ms (.inl (some (.int (if (g && bok n p) = true then 1 else 0)))) (mm_Λ, I, J)
  | 0, p, g, h, h2 => by
    have : p = 0 := by simpa using h
    subst this
    rw [bok, Bool.and_true]
    exact b127_20 (fun _ => b127_52 (by cases g <;> simp)) (fun q => absurd (by rw [nI_0]; exact Int32.le_refl 0) q)
  | n + 1, p, g, h, h2 => by
    rcases Nat.eq_zero_or_pos p with h0 | h0
    · subst h0
      rw [show bok (n + 1) 0 = true from rfl, Bool.and_true]
      exact b127_20 (fun _ => b127_52 (by cases g <;> simp)) (fun q => absurd (by rw [nI_0]; exact Int32.le_refl 0) q)
    · obtain ⟨p', rfl⟩ : ∃ p', p = p' + 1 := ⟨p - 1, by omega⟩
      have e : bok (n + 1) (p' + 1) = (decide (p' % 4 < 3) && bok n (p' / 4)) := by
        rw [bok]; simp
      have hn : p' / 4 < 4 ^ n := by rw [Nat.pow_succ] at h; omega
      have go : ∀ g', mm_Run l X 127 (d + 1) 42 [.int x0, .int (if g = true then 1 else 0), .int (nI (p' + 1))] [.int (if g' = true then 1 else 0)] (mm_Λ, I, J) mc ms (.inl (some (.int (if (g' && bok n (p' / 4)) = true then 1 else 0)))) (mm_Λ, I, J) := by
        intro g'
        refine b127_42 ?_
        rw [nI_pred, nI_div4 (by omega)]
        exact c127_loop n (p' / 4) g' hn (by omega)
      rw [e]
      refine b127_20 (fun q => absurd q (nI_nle h0 (by omega))) (fun _ => b127_24 (fun q => ?_) (fun q => b127_28 (fun q1 => ?_) (fun q1 => ?_)))
      · have hg : g = false := by cases g <;> simp at q ⊢
        subst hg
        exact b127_41 (go false)
      · have hg : g = true := by cases g <;> simp at q ⊢
        subst hg
        rw [nI_pred, nI_rem4 (by omega)] at q1
        have : ¬ p' % 4 < 3 := fun z => nI_ge (b := 3) z (by omega) q1
        rw [show decide (p' % 4 < 3) = false by simp [this]]
        exact b127_41 (go false)
      · have hg : g = true := by cases g <;> simp at q ⊢
        subst hg
        rw [nI_pred, nI_rem4 (by omega)] at q1
        have : p' % 4 < 3 := Nat.lt_of_not_le fun z => q1 (nI_le (a := 3) z (by omega))
        rw [show decide (p' % 4 < 3) = true by simp [this]]
        exact b127_37 (go true)
theorem isPb_b (p : Nat) : (decide (bst 16 p ≤ 4) && bok 16 p) = isPb p := by
  by_cases h : p < 341
  · have key : ∀ p, p < 341 → (decide (bst 16 p ≤ 4) && bok 16 p) = isPb p := by decide +kernel
    exact key p h
  · have h1 : ¬ bst 16 p ≤ 4 := by
      have s : ∀ n q, 0 < q → bst (n + 1) q = 1 + bst n ((q - 1) / 4) := fun n q hq => by rw [bst, if_neg (by omega)]
      rw [s 15 p (by omega), s 14 _ (by omega), s 13 _ (by omega), s 12 _ (by omega), s 11 _ (by omega)]
      omega
    have h2 : isPb p = false := by
      have : ¬ p < 256 := by omega
      simp [isPb, this]
    rw [h2]; simp [h1]
/-- the reference's isPath -/
theorem c127 (p : Nat) (hp : p < 2 ^ 31) : mm_Call l X 127 (d + 1) [.int (nI p)] (mm_Λ, I, J) mc ms (.inl (some (.int (if isPb p = true then 1 else 0)))) (mm_Λ, I, J) := by
  rw [← isPb_b]
  have hb : bst 16 p < 1000 := by
    have : ∀ n q, bst n q ≤ n := by
      intro n
      induction n with
      | zero => intro q; exact Nat.le_refl _
      | succ n ih => intro q; rw [bst]; split; omega; have := ih ((q - 1) / 4); omega
    have := this 16 p; omega
  refine b127_0 (fun q => absurd q (nI_pos hp)) (fun _ => b127_4 (c120 p hp) (b127_8 (fun q => ?_) (fun q => ?_)))
  · have h : ¬ bst 16 p ≤ 4 := fun z => nI_nlt (a := 4) z (by omega) q
    rw [show decide (bst 16 p ≤ 4) = false by simp [h]]
    exact b127_16 (b127_17 (c127_loop 16 p false (by omega) hp))
  · have h : bst 16 p ≤ 4 := Nat.le_of_not_lt fun z => q (nI_lt (a := 4) z (by omega))
    rw [show decide (bst 16 p ≤ 4) = true by simp [h]]
    exact b127_12 (b127_17 (c127_loop 16 p true (by omega) hp))
theorem c127_neg {x : Int32} (h : x < 0) : mm_Call l X 127 (d + 1) [.int x] (mm_Λ, I, J) mc ms (.inl (some (.int 0))) (mm_Λ, I, J) :=
  b127_0 (fun _ => b127_16 (b127_17 (b127_20 (fun _ => b127_52 (Or.inl rfl)) (fun q => absurd (Int32.le_of_lt h) q)))) (fun q => absurd h q)
end PATHS
