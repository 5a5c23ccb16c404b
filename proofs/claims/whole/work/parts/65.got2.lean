section GOT2
variable {b : Bool} {cnt fld fty : Nat → Nat} {T A N : Nat → Int32} {p q r n h m t : Nat} {kd fa fb ly : Nat → Nat} {τ : TR}
theorem cmk_hole {g : Nat → Nat} : ∀ (m k : Nat), cmk g m k = r + 2 → ∃ i, k ≤ i ∧ i < k + m ∧ g i = r + 2
  | 0, k, h => by rw [cmk] at h; omega
  | m + 1, k, h => by
    rw [cmk] at h
    by_cases e : g k = 1
    · rw [if_pos e] at h
      obtain ⟨i, a, b, c⟩ := cmk_hole m (k + 1) h
      exact ⟨i, by omega, by omega, c⟩
    · rw [if_neg e] at h
      exact ⟨k, Nat.le_refl _, by omega, h⟩
theorem got_cm (hW : TW cnt fld fty) : ∀ (n n2 p q t1 t2 : Nat) (τ1 τ2 : TR), n ≤ 4 → n2 ≤ 4 → p < 4 ^ (4 - n) → q < 4 ^ (4 - n2) → t1 < 6 → t2 < 6 → HT b cnt fld fty T A N n τ1 t1 p → HT b cnt fld fty T A N n2 τ2 t2 q → got fld fty τ t p τ1 t1 → got fld fty τ t q τ2 t2 → cm fld fty n τ1 τ2 t1 t2 p q = r + 2 → ∃ τ' t', got fld fty τ t r τ' t' ∧ τ' [] = 0 := by
  intro n
  induction n with
  | zero =>
    intro n2 p q t1 t2 τ1 τ2 hn hn2 hp hq ht1 ht2 h1 h2 g1 g2 hc
    rw [cm] at hc
    by_cases a : τ1 [] = 0
    · rw [if_pos a] at hc
      have e : p = r := by omega
      subst e
      exact ⟨_, _, g1, a⟩
    · rw [if_neg a] at hc
      by_cases a2 : τ2 [] = 0
      · rw [if_pos a2] at hc
        have e : q = r := by omega
        subst e
        exact ⟨_, _, g2, a2⟩
      · rw [if_neg a2] at hc
        split at hc <;> omega
  | succ n ih =>
    intro n2 p q t1 t2 τ1 τ2 hn hn2 hp hq ht1 ht2 h1 h2 g1 g2 hc
    rw [cm] at hc
    by_cases a : τ1 [] = 0
    · rw [if_pos a] at hc
      have e : p = r := by omega
      subst e
      exact ⟨_, _, g1, a⟩
    · rw [if_neg a] at hc
      by_cases a2 : τ2 [] = 0
      · rw [if_pos a2] at hc
        have e : q = r := by omega
        subst e
        exact ⟨_, _, g2, a2⟩
      · rw [if_neg a2] at hc
        by_cases heq : τ1 [] = τ2 [] ∧ fl fld τ1 t1 = fl fld τ2 t2
        · rw [if_pos heq] at hc
          obtain ⟨k, -, hk, hg⟩ := cmk_hole _ _ hc
          obtain ⟨-, -, -, a4, a5⟩ := h1.u hW ht1
          obtain ⟨-, -, -, b4, b5⟩ := h2.u hW ht2
          obtain ⟨k0, k6, kH⟩ := a5 k (by omega)
          obtain ⟨k0', k6', kH'⟩ := b5 k (by omega)
          obtain ⟨m2, rfl⟩ : ∃ m2, n2 = m2 + 1 := ⟨n2 - 1, by omega⟩
          have hp64 : p < 64 := Nat.lt_of_lt_of_le hp (Nat.pow_le_pow_right (n := 4) (by decide) (show 4 - (n + 1) ≤ 3 by omega))
          have hq64 : q < 64 := Nat.lt_of_lt_of_le hq (Nat.pow_le_pow_right (n := 4) (by decide) (show 4 - (m2 + 1) ≤ 3 by omega))
          exact ih m2 _ _ _ _ _ _ (by omega) (by omega) (pw4k hn (by omega) hp) (pw4k hn2 (by omega) hq) k6 k6' kH kH' (g1.kid hp64 (by omega) (by omega)) (g2.kid hq64 (by omega) (by omega)) hg
        · rw [if_neg heq] at hc
          omega
theorem got_sv (hW : TW cnt fld fty) (hp : isPb p = true) (hq : isPb q = true) (hm : m ≤ 4) (ht : t < 6) (h : HT b cnt fld fty T A N m τ t 0) (hc : svl fld fty m τ t p q = r + 2) : ∃ τ' t', got fld fty τ t r τ' t' ∧ τ' [] = 0 := by
  obtain ⟨a1, a2⟩ := wk_code hW hp ht h
  obtain ⟨b1, b2⟩ := wk_code hW hq ht h
  unfold svl at hc
  by_cases h1 : 1 < (wk fld fty p (stp 4 p) τ t).1
  · rw [if_pos h1] at hc
    exact got_wk hp hc
  · rw [if_neg h1] at hc
    by_cases h2 : 1 < (wk fld fty q (stp 4 q) τ t).1
    · rw [if_pos h2] at hc
      exact got_wk hq hc
    · rw [if_neg h2] at hc
      by_cases h3 : (wk fld fty p (stp 4 p) τ t).1 = 0 ∨ (wk fld fty q (stp 4 q) τ t).1 = 0
      · rw [if_pos h3] at hc
        split at hc <;> omega
      · rw [if_neg h3] at hc
        have w1 : (wk fld fty p (stp 4 p) τ t).1 = 1 := by omega
        have w2 : (wk fld fty q (stp 4 q) τ t).1 = 1 := by omega
        obtain ⟨m1, k6, kH⟩ := a2 w1
        obtain ⟨m2, k6', kH'⟩ := b2 w2
        exact got_cm hW _ _ _ _ _ _ _ _ (by omega) (by omega) (pz_lt hp m1 hm) (pz_lt hq m2 hm) k6 k6' kH kH' ⟨hp, tri w1⟩ ⟨hq, tri w2⟩ hc
/-- what evaluating asks for is a hole of the tree -/
theorem got_ev (hW : TW cnt fld fty) (hw : PW n h kd fa fb ly) (hm : m ≤ 4) (ht : t < 6) (hH : HT b cnt fld fty T A N m τ t 0) : ∀ (u i : Nat), i < u → i < n → evE (tvF fld fty τ t) (svF fld fty m τ t) kd fa fb i = r + 2 → ∃ τ' t', got fld fty τ t r τ' t' ∧ τ' [] = 0
  | 0, i, h1, _, _ => by omega
  | u + 1, i, h1, hi, hr => by
    obtain ⟨w1, w2, w3, w4⟩ := hw.2.2.1 i hi
    rw [evE_eq hw hi] at hr
    by_cases e3 : kd i = 3
    · rw [if_pos e3] at hr
      exact got_tv (w3 e3).1 hr
    · rw [if_neg e3] at hr
      by_cases e4 : kd i = 4
      · rw [if_pos e4] at hr
        exact got_sv hW (w4 e4).1 (w4 e4).2 hm ht hH hr
      · rw [if_neg e4] at hr
        obtain ⟨v1, v2⟩ := w2 (by omega)
        have ia := got_ev hW hw hm ht hH u (fa i) (by omega) (by omega)
        have ib := got_ev hW hw hm ht hH u (fb i) (by omega) (by omega)
        by_cases e2 : kd i = 2
        · rw [if_pos e2] at hr
          split at hr
          · omega
          · exact ia hr
        · rw [if_neg e2] at hr
          by_cases e1 : kd i = 1
          · rw [if_pos e1] at hr
            split at hr
            · exact ib hr
            · exact ia hr
          · rw [if_neg e1] at hr
            split at hr
            · exact ib hr
            · exact ia hr
end GOT2
