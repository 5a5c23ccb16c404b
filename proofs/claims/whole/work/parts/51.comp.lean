/-! ===== test and same, evaluated ===== -/
def tvl (fld fty : Nat → Nat) (τ : TR) (t p c : Nat) : Nat :=
  if (wk fld fty p (stp 4 p) τ t).1 = 1 then (if (wk fld fty p (stp 4 p) τ t).2.1 [] = 0 then p + 2 else if (wk fld fty p (stp 4 p) τ t).2.1 [] = c + 1 then 1 else 0) else (wk fld fty p (stp 4 p) τ t).1
/-- the first answer of the fields that is not true -/
def cmk (g : Nat → Nat) : Nat → Nat → Nat
  | 0, _ => 1
  | n + 1, k => if g k = 1 then cmk g n (k + 1) else g k
def cm (fld fty : Nat → Nat) : Nat → TR → TR → Nat → Nat → Nat → Nat → Nat
  | 0, τ1, τ2, t1, t2, p, q => if τ1 [] = 0 then p + 2 else if τ2 [] = 0 then q + 2 else if τ1 [] = τ2 [] ∧ fl fld τ1 t1 = fl fld τ2 t2 then 1 else 0
  | n + 1, τ1, τ2, t1, t2, p, q => if τ1 [] = 0 then p + 2 else if τ2 [] = 0 then q + 2 else if τ1 [] = τ2 [] ∧ fl fld τ1 t1 = fl fld τ2 t2 then
      cmk (fun k => cm fld fty n (tkid τ1 k) (tkid τ2 k) (kty fty τ1 t1 k) (kty fty τ2 t2 k) (4 * p + k + 1) (4 * q + k + 1)) (fl fld τ1 t1) 0 else 0
section COMP
variable {l : Launch} {X : Nat × (Nat → Int32)} {d : Nat} {I I' : Nat → Nat → Int32} {J : Nat → Nat → Int64} {mc ms : Nat} {cnt fld fty : Nat → Nat} {p q t t1 t2 c n n1 n2 : Nat} {b : Bool} {T A N : Nat → Int32} {τ τ1 τ2 : TR}
theorem wk_lt (hp : isPb p = true) {i : Nat} (hi : i < stp 4 p) : p / 4 ^ (i + 1) < p := by
  obtain ⟨f1, f2, f3, f4, f5⟩ := pz_facts p (isPb_lt hp) hp
  have h1 := f4 i hi
  have h2 := (dg1 h1).1
  have h3 : p / 4 ^ i ≤ p := Nat.div_le_self _ _
  have h4 : p / 4 ^ (i + 1) = p / 4 ^ i / 4 := by rw [Nat.pow_succ, ← Nat.div_div_eq_div_mul]
  rw [h4]
  generalize p / 4 ^ i = u at *
  omega
theorem wk_code (hW : TW cnt fld fty) (hp : isPb p = true) (ht : t < 6) (h : HT b cnt fld fty T A N n τ t 0) : (∀ r, (wk fld fty p (stp 4 p) τ t).1 = r + 2 → r < p) ∧ ((wk fld fty p (stp 4 p) τ t).1 = 1 → stp 4 p ≤ n ∧ (wk fld fty p (stp 4 p) τ t).2.2 < 6 ∧ HT b cnt fld fty T A N (n - stp 4 p) (wk fld fty p (stp 4 p) τ t).2.1 (wk fld fty p (stp 4 p) τ t).2.2 p) := by
  obtain ⟨f1, f2, f3, f4, f5⟩ := pz_facts p (isPb_lt hp) hp
  obtain ⟨h1, h2⟩ := wk_ok (p := p) hW (stp 4 p) n τ t ht f4 (by rw [f5]; exact h)
  refine ⟨fun r hr => ?_, h1⟩
  obtain ⟨i, hi, e⟩ := h2 r hr
  rw [e]; exact wk_lt hp hi
/-- hasConstructor -/
theorem c83 (hW : TW cnt fld fty) (hp : isPb p = true) (hc : c < 4) (ht : t < 6) (h : HT true cnt fld fty (I 14) (I 15) (I 16) n τ t 0) :
    mm_Call l X 83 (d + 2) [.ref 13, .int (nI p), .int (nI c)] (mm_Λ, I, J) mc ms (.inl (some (.int (cdA (tvl fld fty τ t p c))))) (mm_Λ, I, J) := by
  have hp6 := isPb_lt hp
  have r := @c84 l X d I J 0 0 cnt fld fty p t n τ hW hp ht h
  obtain ⟨w1, w2⟩ := wk_code hW hp ht h
  unfold tvl
  refine b83_0 r ?_
  rcases hw : (wk fld fty p (stp 4 p) τ t).1 with _ | _ | q
  · rw [if_neg (by decide)]
    exact b83_5 (fun z => absurd rfl z) (fun _ => b83_11)
  · obtain ⟨-, k6, kH⟩ := w2 hw
    obtain ⟨-, g2, -⟩ := kH.u hW k6
    rw [if_pos rfl]
    refine b83_5 (fun _ => b83_14 (fun z => absurd rfl z) (fun _ => b83_19 (ix_in hp6 (by omega)) (fun z => ?_) (fun z => ?_))) (fun z => absurd (nI_ne1 (by omega)) z)
    · rw [ix_cl (by omega), g2] at z
      have h0 : ¬ (wk fld fty p (stp 4 p) τ t).2.1 [] = 0 := fun w => z (cod_hole w)
      obtain ⟨c', hc'⟩ : ∃ c', (wk fld fty p (stp 4 p) τ t).2.1 [] = c' + 1 := ⟨(wk fld fty p (stp 4 p) τ t).2.1 [] - 1, by omega⟩
      have hs := kH.small hW k6 hc'
      rw [if_neg h0]
      refine b83_32 (ix_in hp6 (by omega)) (fun z1 => ?_) (fun z1 => ?_)
      · rw [ix_cl (by omega), g2, cod_node hc'] at z1
        rw [if_neg (fun w => z1 (by rw [hc'] at w; congr 1; omega))]
        exact b83_46 b83_48
      · rw [ix_cl (by omega), g2, cod_node hc'] at z1
        have e := (nI_eq (by omega) (by omega)).mp (Decidable.not_not.mp z1)
        rw [if_pos (by rw [hc', e])]
        exact b83_42 b83_48
    · rw [ix_cl (by omega), g2] at z
      have h0 : (wk fld fty p (stp 4 p) τ t).2.1 [] = 0 := Decidable.byContradiction fun w => z (kH.cod_ne hW k6 w)
      rw [if_pos h0]
      exact b83_30
  · have hq := w1 q hw
    rw [if_neg (by omega)]
    exact b83_5 (fun _ => b83_14 (fun _ => b83_30) (fun z => absurd (fun w => absurd ((nI_eq (by omega) (by omega)).mp w) (by omega)) z)) (fun z => absurd (nI_ne1 (by omega)) z)
/-- evaluateTest -/
theorem c134 (hT : TV I 27 28 29 cnt fld fty) (hp : isPb p = true) (hc : c < 4) (ht : t < 6) (h : HT false cnt fld fty (I 33) (I 32) (I 32) n τ t 0) :
    mm_Call l X 134 (d + 3) [.ref 26, .int (nI p), .int (nI c)] (mm_Λ, I, J) mc ms (.inl (some (.int (nI (tvl fld fty τ t p c))))) (mm_Λ, I, J) := by
  have hp6 := isPb_lt hp
  have hW := hT.tw
  have r := @c135 l X d I J 0 0 cnt fld fty p t n τ hT hp ht h
  obtain ⟨w1, w2⟩ := wk_code hW hp ht h
  unfold tvl
  refine b134_0 r ?_
  by_cases hw : (wk fld fty p (stp 4 p) τ t).1 = 1
  · obtain ⟨-, k6, kH⟩ := w2 hw
    obtain ⟨-, g2, -⟩ := kH.u hW k6
    rw [if_pos hw, hw]
    refine b134_5 (fun _ => b134_13 (ix_in hp6 (by omega)) (fun z => ?_) (fun z => ?_)) (fun z => absurd rfl z)
    · rw [ix_cl (by omega), g2] at z
      have h0 : ¬ (wk fld fty p (stp 4 p) τ t).2.1 [] = 0 := fun w => z (cod_hole w)
      obtain ⟨c', hc'⟩ : ∃ c', (wk fld fty p (stp 4 p) τ t).2.1 [] = c' + 1 := ⟨(wk fld fty p (stp 4 p) τ t).2.1 [] - 1, by omega⟩
      have hs := kH.small hW k6 hc'
      rw [if_neg h0]
      refine b134_30 (ix_in hp6 (by omega)) (fun z1 => ?_) (fun z1 => ?_)
      · rw [ix_cl (by omega), g2, cod_node hc'] at z1
        rw [if_neg (fun w => z1 (by rw [hc'] at w; congr 1; omega))]
        exact b134_44 b134_45
      · rw [ix_cl (by omega), g2, cod_node hc'] at z1
        have e := (nI_eq (by omega) (by omega)).mp (Decidable.not_not.mp z1)
        rw [if_pos (by rw [hc', e])]
        exact b134_40 b134_45
    · rw [ix_cl (by omega), g2] at z
      have h0 : (wk fld fty p (stp 4 p) τ t).2.1 [] = 0 := Decidable.byContradiction fun w => z (kH.cod_ne hW k6 w)
      rw [if_pos h0]
      refine b134_24 ?_
      rw [show (2 : Int32) = nI 2 from rfl, nI_add, Nat.add_comm 2]
      exact b134_45
  · rw [if_neg hw]
    have hb : (wk fld fty p (stp 4 p) τ t).1 < 1000 := by
      rcases hq : (wk fld fty p (stp 4 p) τ t).1 with _ | _ | q
      · omega
      · omega
      · have := w1 q hq; omega
    exact b134_5 (fun z => absurd ((nI_eq (b := 1) (by omega) (by omega)).mp z) hw) (fun _ => b134_11)
/-! same -/
theorem cdA_1 {w : Nat} (h : w < 1000) : cdA w = -1 ↔ w = 1 := by
  match w, h with
  | 0, _ => exact ⟨fun q => absurd q (by decide), fun q => absurd q (by decide)⟩
  | 1, _ => exact ⟨fun _ => rfl, fun _ => rfl⟩
  | w + 2, h => exact ⟨fun q => absurd q (nI_ne1 (by omega)), fun q => absurd q (by omega)⟩
theorem c87_head {h w v : Nat} (hW : TW cnt fld fty) (ht1 : t1 < 6) (ht2 : t2 < 6) (hp : p < 256) (hq : q < 256) (h1 : HT true cnt fld fty (I 14) (I 15) (I 16) n1 τ1 t1 p) (h2 : HT true cnt fld fty (I 14) (I 15) (I 16) n2 τ2 t2 q)
    (hv : v = if τ1 [] = 0 then p + 2 else if τ2 [] = 0 then q + 2 else if τ1 [] = τ2 [] ∧ fl fld τ1 t1 = fl fld τ2 t2 then w else 0)
    (rr : fl fld τ1 t1 = fl fld τ2 t2 → mm_Run l X 87 (d + 1) 59 [.ref 13, .int (nI p), .int (nI q), .int (nI h), .null, .null] [] (mm_Λ, I, J) mc ms (.inl (some (.int (cdA w)))) (mm_Λ, I, J)) :
    mm_Call l X 87 (d + 1) [.ref 13, .int (nI p), .int (nI q), .int (nI h)] (mm_Λ, I, J) mc ms (.inl (some (.int (cdA v)))) (mm_Λ, I, J) := by
  obtain ⟨-, a2, a3, a4, -⟩ := h1.u hW ht1
  obtain ⟨-, b2, b3, b4, -⟩ := h2.u hW ht2
  subst hv
  refine b87_0 (ix_in hp (by omega)) (fun z => ?_) (fun z => ?_)
  · rw [ix_cl (by omega), a2] at z
    have h0 : ¬ τ1 [] = 0 := fun w => z (cod_hole w)
    rw [if_neg h0]
    refine b87_13 (ix_in hq (by omega)) (fun z => ?_) (fun z => ?_)
    · rw [ix_cl (by omega), b2] at z
      have h0' : ¬ τ2 [] = 0 := fun w => z (cod_hole w)
      rw [if_neg h0']
      obtain ⟨c1, hc1⟩ : ∃ c, τ1 [] = c + 1 := ⟨τ1 [] - 1, by omega⟩
      obtain ⟨c2, hc2⟩ : ∃ c, τ2 [] = c + 1 := ⟨τ2 [] - 1, by omega⟩
      have s1 := h1.small hW ht1 hc1
      have s2 := h2.small hW ht2 hc2
      refine b87_26 (ix_in hp (by omega)) (ix_in hq (by omega)) (fun z => ?_) (fun z => ?_)
      · rw [ix_cl (by omega), ix_cl (by omega), a2, b2, cod_node hc1, cod_node hc2] at z
        rw [if_neg (fun w => z (by have := w.1; rw [hc1, hc2] at this; congr 1; omega))]
        exact b87_56
      · rw [ix_cl (by omega), ix_cl (by omega), a2, b2, cod_node hc1, cod_node hc2] at z
        have e := (nI_eq (by omega) (by omega)).mp (Decidable.not_not.mp z)
        refine b87_41 (ix_in hp (by omega)) (ix_in hq (by omega)) (fun z => ?_) (fun z => ?_)
        · rw [ix_cl (by omega), ix_cl (by omega), a3 rfl, b3 rfl] at z
          have e2 := (nI_eq (by omega) (by omega)).mp z
          rw [if_pos ⟨by rw [hc1, hc2, e], e2⟩]
          exact rr e2
        · rw [ix_cl (by omega), ix_cl (by omega), a3 rfl, b3 rfl] at z
          rw [if_neg (fun w => z (by rw [w.2]))]
          exact b87_56
    · rw [ix_cl (by omega), b2] at z
      have h0' : τ2 [] = 0 := Decidable.byContradiction fun w => z (h2.cod_ne hW ht2 w)
      rw [if_pos h0']
      exact b87_24
  · rw [ix_cl (by omega), a2] at z
    have h0 : τ1 [] = 0 := Decidable.byContradiction fun w => z (h1.cod_ne hW ht1 w)
    rw [if_pos h0]
    exact b87_11
theorem c87_kids {h m0 w0 : Nat} {g : Nat → Nat} (hp : p < 256) (h3 : m0 ≤ 3) (hn : I 16 p = nI m0)
    (hIH : ∀ k, k < m0 → g k < 1000 ∧ mm_Call l X 87 w0 [.ref 13, .int (nI (4 * p + k + 1)), .int (nI (4 * q + k + 1)), .int (nI h + 1)] (mm_Λ, I, J) 0 0 (.inl (some (.int (cdA (g k))))) (mm_Λ, I, J)) :
    ∀ (m k w : Nat), k + m = m0 → w < 1000 → mm_Run l X 87 (w0 + 1) 70 [.ref 13, .int (nI p), .int (nI q), .int (nI h), .int (cdA w), .int (nI k)] [] (mm_Λ, I, J) mc ms (.inl (some (.int (cdA (if w = 1 then cmk g m k else w))))) (mm_Λ, I, J)
  | 0, k, w, hk, hw => by
    have e : (if w = 1 then cmk g 0 k else w) = w := by
      by_cases h : w = 1
      · rw [if_pos h, cmk, h]
      · rw [if_neg h]
    rw [e]
    exact b87_70 (ix_in hp (by omega)) (fun _ => b87_114) (fun z => absurd (by rw [ix_cl (by omega), hn]; exact nI_le (by omega) (by omega)) z)
  | m + 1, k, w, hk, hw => by
    obtain ⟨g1, g2⟩ := hIH k (by omega)
    refine b87_70 (ix_in hp (by omega)) (fun z => absurd z (by rw [ix_cl (by omega), hn]; exact nI_ge (by omega) (by omega))) (fun _ => b87_81 (fun z => ?_) (fun z => ?_))
    · rw [if_neg (fun e => z ((cdA_1 hw).mpr e))]
      exact b87_114
    · have e := (cdA_1 hw).mp (Decidable.not_not.mp z)
      rw [if_pos e]
      refine b87_87 (c45 p k) (b87_94 (c45 q k) (b87_100 g2 (b87_106 ?_)))
      rw [nI_1]
      have rr := c87_kids hp h3 hn hIH m (k + 1) (g k) (by omega) g1
      rw [cmk]
      exact rr
theorem pw4 {p n : Nat} (hn : n ≤ 4) (h : p < 4 ^ (4 - n)) : p < 256 := Nat.lt_of_lt_of_le h (Nat.pow_le_pow_right (n := 4) (by decide) (show 4 - n ≤ 4 by omega))
theorem pw4k {p n k : Nat} (hn : n + 1 ≤ 4) (hk : k < 3) (h : p < 4 ^ (4 - (n + 1))) : 4 * p + k + 1 < 4 ^ (4 - n) := by
  rw [show 4 - n = 4 - (n + 1) + 1 by omega, Nat.pow_succ]
  omega
theorem cmk_lt {g : Nat → Nat} : ∀ (m k : Nat), (∀ i, k ≤ i → i < k + m → g i < 1000) → cmk g m k < 1000
  | 0, k, _ => by rw [cmk]; omega
  | m + 1, k, h => by
    rw [cmk]
    split
    · exact cmk_lt m (k + 1) fun i a b => h i (by omega) (by omega)
    · exact h k (Nat.le_refl _) (by omega)
theorem cm_lt (hW : TW cnt fld fty) : ∀ (n n2 p q t1 t2 : Nat) (τ1 τ2 : TR), n ≤ 4 → n2 ≤ 4 → p < 4 ^ (4 - n) → q < 4 ^ (4 - n2) → t1 < 6 → t2 < 6 → HT b cnt fld fty T A N n τ1 t1 p → HT b cnt fld fty T A N n2 τ2 t2 q → cm fld fty n τ1 τ2 t1 t2 p q < 1000
  | 0, n2, p, q, t1, t2, τ1, τ2, hn, hn2, hp, hq, ht1, ht2, h1, h2 => by
    have := pw4 hn hp
    have := pw4 hn2 hq
    unfold cm
    split
    · omega
    · split
      · omega
      · split <;> omega
  | n + 1, n2, p, q, t1, t2, τ1, τ2, hn, hn2, hp, hq, ht1, ht2, h1, h2 => by
    have := pw4 hn hp
    have := pw4 hn2 hq
    unfold cm
    split
    · omega
    · split
      · omega
      · split
        · rename_i e
          refine cmk_lt _ _ fun k _ hk => ?_
          obtain ⟨-, -, -, a4, a5⟩ := h1.u hW ht1
          obtain ⟨-, -, -, b4, b5⟩ := h2.u hW ht2
          obtain ⟨k0, k6, kH⟩ := a5 k (by omega)
          obtain ⟨k0', k6', kH'⟩ := b5 k (by omega)
          obtain ⟨m2, rfl⟩ : ∃ m2, n2 = m2 + 1 := ⟨n2 - 1, by omega⟩
          exact cm_lt hW n m2 _ _ _ _ _ _ (by omega) (by omega) (pw4k hn (by omega) hp) (pw4k hn2 (by omega) hq) k6 k6' kH kH'
        · omega
/-- compare -/
theorem c87 (hW : TW cnt fld fty) : ∀ (n n2 h p q t1 t2 : Nat) (τ1 τ2 : TR), n + h ≤ 4 → n2 ≤ 4 → p < 4 ^ (4 - n) → q < 4 ^ (4 - n2) → t1 < 6 → t2 < 6 → HT true cnt fld fty (I 14) (I 15) (I 16) n τ1 t1 p → HT true cnt fld fty (I 14) (I 15) (I 16) n2 τ2 t2 q →
    mm_Call l X 87 (d + n + 1) [.ref 13, .int (nI p), .int (nI q), .int (nI h)] (mm_Λ, I, J) mc ms (.inl (some (.int (cdA (cm fld fty n τ1 τ2 t1 t2 p q))))) (mm_Λ, I, J) := by
  intro n
  induction n generalizing mc ms with
  | zero =>
    intro n2 h p q t1 t2 τ1 τ2 hn hn2 hp hq ht1 ht2 h1 h2
    have hp6 := pw4 (n := 0) (by omega) hp
    have hq6 := pw4 hn2 hq
    obtain ⟨-, -, a3, -, a5⟩ := h1.u hW ht1
    have h0 : fl fld τ1 t1 = 0 := Nat.eq_zero_of_not_pos fun z => absurd (a5 0 z).1 (by omega)
    refine c87_head (w := 1) hW ht1 ht2 hp6 hq6 h1 h2 rfl fun _ => b87_59 (fun _ => b87_114) (fun _ => b87_67 (b87_70 (ix_in hp6 (by omega)) (fun _ => b87_114) (fun z => absurd ?_ z)))
    rw [ix_cl (by omega), a3 rfl, h0]
    decide
  | succ n ih =>
    intro n2 h p q t1 t2 τ1 τ2 hn hn2 hp hq ht1 ht2 h1 h2
    have hp6 := pw4 (n := n + 1) (by omega) hp
    have hq6 := pw4 hn2 hq
    obtain ⟨-, -, a3, a4, a5⟩ := h1.u hW ht1
    obtain ⟨-, -, b3, b4, b5⟩ := h2.u hW ht2
    refine c87_head (w := cmk (fun k => cm fld fty n (tkid τ1 k) (tkid τ2 k) (kty fty τ1 t1 k) (kty fty τ2 t2 k) (4 * p + k + 1) (4 * q + k + 1)) (fl fld τ1 t1) 0) hW ht1 ht2 hp6 hq6 h1 h2 rfl fun e => b87_59 (fun z => absurd z (nI_ge (b := 4) (by omega) (by omega))) (fun _ => b87_67 ?_)
    have rr := @c87_kids l X I J mc ms p q h (fl fld τ1 t1) (d + n + 1) (fun k => cm fld fty n (tkid τ1 k) (tkid τ2 k) (kty fty τ1 t1 k) (kty fty τ2 t2 k) (4 * p + k + 1) (4 * q + k + 1)) hp6 a4 (a3 rfl)
      (fun k hk => by
        obtain ⟨k0, k6, kH⟩ := a5 k hk
        obtain ⟨k0', k6', kH'⟩ := b5 k (by omega)
        obtain ⟨m2, rfl⟩ : ∃ m2, n2 = m2 + 1 := ⟨n2 - 1, by omega⟩
        refine ⟨cm_lt hW n m2 _ _ _ _ _ _ (by omega) (by omega) (pw4k (by omega) (by omega) hp) (pw4k hn2 (by omega) hq) k6 k6' kH kH', ?_⟩
        rw [nI_1]
        exact ih m2 (h + 1) _ _ _ _ _ _ (by omega) (by omega) (pw4k (by omega) (by omega) hp) (pw4k hn2 (by omega) hq) k6 k6' kH kH') (fl fld τ1 t1) 0 1 (by omega) (by omega)
    rw [if_pos rfl, nI_0] at rr
    exact rr
end COMP
