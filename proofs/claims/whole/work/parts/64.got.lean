/-! ===== what is asked for is a hole ===== -/
theorem tri {w : Nat × TR × Nat} (h : w.1 = 1) : w = (1, w.2.1, w.2.2) := by
  obtain ⟨w1, w2, w3⟩ := w
  have : w1 = 1 := h
  rw [this]
section GOT
variable {b : Bool} {cnt fld fty : Nat → Nat} {T A N : Nat → Int32} {p q : Nat}
/-- at the path p of the tree there is this tree of this type -/
def got (fld fty : Nat → Nat) (τ : TR) (t p : Nat) (τ' : TR) (t' : Nat) : Prop := isPb p = true ∧ wk fld fty p (stp 4 p) τ t = (1, τ', t')
theorem pz_pre : ∀ p, p < 256 → isPb p = true → ∀ i, i < stp 4 p → isPb (p / 4 ^ (i + 1)) = true ∧ stp 4 (p / 4 ^ (i + 1)) = stp 4 p - (i + 1) := by decide +kernel
theorem pz_kid : ∀ p, p < 64 → isPb p = true → ∀ k, k < 3 → isPb (4 * p + k + 1) = true ∧ stp 4 (4 * p + k + 1) = stp 4 p + 1 := by decide +kernel
theorem wk_hole : ∀ (s t : Nat) (τ : TR), (wk fld fty p s τ t).1 = q + 2 → ∃ i, i < s ∧ q = p / 4 ^ (i + 1) ∧ (wk fld fty q (s - (i + 1)) τ t).1 = 1 ∧ (wk fld fty q (s - (i + 1)) τ t).2.1 [] = 0
  | 0, t, τ, h => by simp [wk] at h
  | s + 1, t, τ, h => by
    rw [wk] at h
    by_cases h0 : τ [] = 0
    · rw [if_pos h0] at h
      have e : p / 4 ^ (s + 1) = q := by simpa using h
      exact ⟨s, by omega, e.symm, by rw [Nat.sub_self]; rfl, by rw [Nat.sub_self]; exact h0⟩
    · rw [if_neg h0] at h
      by_cases h1 : fl fld τ t < p / 4 ^ s % 4
      · rw [if_pos h1] at h
        simp at h
      · rw [if_neg h1] at h
        obtain ⟨i, hi, e, g1, g2⟩ := wk_hole s _ _ h
        have ed : q / 4 ^ (s - (i + 1)) = p / 4 ^ s := by
          rw [e, Nat.div_div_eq_div_mul, ← Nat.pow_add, show i + 1 + (s - (i + 1)) = s by omega]
        have ew : wk fld fty q (s + 1 - (i + 1)) τ t = wk fld fty q (s - (i + 1)) (tkid τ (p / 4 ^ s % 4 - 1)) (kty fty τ t (p / 4 ^ s % 4 - 1)) := by
          rw [show s + 1 - (i + 1) = s - (i + 1) + 1 by omega, wk, if_neg h0, ed, if_neg h1]
        exact ⟨i, by omega, e, by rw [ew]; exact g1, by rw [ew]; exact g2⟩
theorem wk_snoc {k : Nat} (hk3 : k < 3) {τ' : TR} {t' : Nat} : ∀ (s t : Nat) (τ : TR), wk fld fty p s τ t = (1, τ', t') → k < fl fld τ' t' → wk fld fty (4 * p + k + 1) (s + 1) τ t = (1, tkid τ' k, kty fty τ' t' k)
  | 0, t, τ, h, hk => by
    have e1 : τ = τ' := congrArg (fun z => z.2.1) h
    have e2 : t = t' := congrArg (fun z => z.2.2) h
    subst e1; subst e2
    have h0 : ¬ τ [] = 0 := fun z => by rw [fl, z] at hk; exact absurd hk (by simp)
    have ed : (4 * p + k + 1) / 4 ^ 0 % 4 = k + 1 := by rw [Nat.pow_zero, Nat.div_one]; omega
    rw [wk, if_neg h0, ed, if_neg (by omega), wk]
    rfl
  | s + 1, t, τ, h, hk => by
    obtain ⟨h0, h1, e⟩ := wk_succ (show (wk fld fty p (s + 1) τ t).1 = 1 by rw [h])
    have ed : (4 * p + k + 1) / 4 ^ (s + 1) = p / 4 ^ s := by
      rw [Nat.pow_succ, Nat.mul_comm (4 ^ s), ← Nat.div_div_eq_div_mul, show (4 * p + k + 1) / 4 = p by omega]
    rw [e] at h
    rw [wk, if_neg h0, ed, if_neg (by omega)]
    exact wk_snoc hk3 s _ _ h hk
theorem got.kid {τ τ' : TR} {t t' k : Nat} (h : got fld fty τ t p τ' t') (hp : p < 64) (hk3 : k < 3) (hk : k < fl fld τ' t') : got fld fty τ t (4 * p + k + 1) (tkid τ' k) (kty fty τ' t' k) := by
  obtain ⟨g1, g2⟩ := pz_kid p hp h.1 k hk3
  refine ⟨g1, ?_⟩
  rw [g2]
  exact wk_snoc hk3 _ _ _ h.2 hk
/-- asked for on the way -/
theorem got_wk {τ : TR} {t : Nat} (hp : isPb p = true) (h : (wk fld fty p (stp 4 p) τ t).1 = q + 2) : ∃ τ' t', got fld fty τ t q τ' t' ∧ τ' [] = 0 := by
  obtain ⟨i, hi, e, g1, g2⟩ := wk_hole _ _ _ h
  obtain ⟨k1, k2⟩ := pz_pre p (isPb_lt hp) hp i hi
  rw [← e] at k1 k2
  rw [← k2] at g1 g2
  exact ⟨(wk fld fty q (stp 4 q) τ t).2.1, (wk fld fty q (stp 4 q) τ t).2.2, ⟨k1, tri g1⟩, g2⟩
theorem got_tv {τ : TR} {t c : Nat} (hp : isPb p = true) (h : tvl fld fty τ t p c = q + 2) : ∃ τ' t', got fld fty τ t q τ' t' ∧ τ' [] = 0 := by
  unfold tvl at h
  by_cases h1 : (wk fld fty p (stp 4 p) τ t).1 = 1
  · rw [if_pos h1] at h
    by_cases h2 : (wk fld fty p (stp 4 p) τ t).2.1 [] = 0
    · rw [if_pos h2] at h
      have e : p = q := by omega
      subst e
      exact ⟨(wk fld fty p (stp 4 p) τ t).2.1, (wk fld fty p (stp 4 p) τ t).2.2, ⟨hp, tri h1⟩, h2⟩
    · rw [if_neg h2] at h
      split at h <;> omega
  · rw [if_neg h1] at h
    exact got_wk hp h
end GOT
