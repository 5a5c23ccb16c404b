/-! ===== the product over the rows is the product over the tree ===== -/
/-- q is a place of the tree -/
def lv (fld fty : Nat → Nat) : Nat → TR → Nat → Nat → Nat → Prop
  | 0, _, _, p, q => q = p
  | n + 1, τ, t, p, q => q = p ∨ ∃ k, k < fl fld τ t ∧ lv fld fty n (tkid τ k) (kty fty τ t k) (4 * p + k + 1) q
theorem prd_congr {g h : Nat → Nat} : ∀ (n j : Nat), (∀ i, j ≤ i → i < j + n → g i = h i) → prd g n j = prd h n j
  | 0, _, _ => rfl
  | n + 1, j, hq => by
    rw [prd, prd, hq j (Nat.le_refl _) (by omega), prd_congr n (j + 1) fun i a b => hq i (by omega) (by omega)]
theorem prd_upd {g h : Nat → Nat} {p : Nat} (h1 : h p = 1) (hne : ∀ i, i ≠ p → h i = g i) : ∀ (n j : Nat), j ≤ p → p < j + n → prd g n j = g p * prd h n j
  | 0, j, a, b => by omega
  | n + 1, j, a, b => by
    rw [prd, prd]
    by_cases e : j = p
    · subst e
      rw [h1, Nat.one_mul, prd_congr n (j + 1) fun i u v => (hne i (by omega)).symm]
    · rw [hne j e, prd_upd h1 hne n (j + 1) (by omega) (by omega), ← Nat.mul_assoc, ← Nat.mul_assoc, Nat.mul_comm (g j)]
theorem prd_one {g : Nat → Nat} : ∀ (n j : Nat), (∀ i, j ≤ i → i < j + n → g i = 1) → prd g n j = 1
  | 0, _, _ => rfl
  | n + 1, j, h => by rw [prd, h j (Nat.le_refl _) (by omega), prd_one n (j + 1) fun i a b => h i (by omega) (by omega)]
section PROD
variable {cnt fld fty ty : Nat → Nat} {T : Nat → Int32} {most : Nat}
def clr1 (A : Nat → Int32) (p : Nat) : Nat → Int32 := fun q => if q = p then -1 else A q
theorem clr1_prd {A : Nat → Int32} {p : Nat} (hp : p < 256) : prd (hv cnt fld fty A ty most) 256 0 = hv cnt fld fty A ty most p * prd (hv cnt fld fty (clr1 A p) ty most) 256 0 := by
  refine prd_upd ?_ (fun i hi => ?_) 256 0 (by omega) (by omega)
  · unfold hv clr1
    rw [if_pos rfl, if_neg (by decide)]
  · unfold hv clr1
    rw [if_neg hi]
theorem prod_kids {n p m0 : Nat} {τ : TR} {t : Nat} (hW : TW cnt fld fty) (h3 : m0 ≤ 3) (hk6 : ∀ k, k < m0 → kty fty τ t k < 6)
    (hIH : ∀ k (A : Nat → Int32), k < m0 → HT false cnt fld fty T A A n (tkid τ k) (kty fty τ t k) (4 * p + k + 1) → (∀ q, q < 256 → A q = -2 → T q = nI (ty q) ∧ ty q < 6) →
      ∃ A', prd (hv cnt fld fty A ty most) 256 0 = pT cnt fld fty n (tkid τ k) (kty fty τ t k) * prd (hv cnt fld fty A' ty most) 256 0 ∧ (∀ q, ¬ bel (4 * p + k + 1) q → A' q = A q) ∧ (∀ q, A' q = -2 → A q = -2) ∧ ∀ q, lv fld fty n (tkid τ k) (kty fty τ t k) (4 * p + k + 1) q → ¬ A' q = -2) :
    ∀ (m k : Nat) (A : Nat → Int32), k + m = m0 → (∀ j, k ≤ j → j < m0 → HT false cnt fld fty T A A n (tkid τ j) (kty fty τ t j) (4 * p + j + 1)) → (∀ q, q < 256 → A q = -2 → T q = nI (ty q) ∧ ty q < 6) →
      ∃ A', prd (hv cnt fld fty A ty most) 256 0 = prd (fun k => pT cnt fld fty n (tkid τ k) (kty fty τ t k)) m k * prd (hv cnt fld fty A' ty most) 256 0 ∧ (∀ q, (∀ j, k ≤ j → j < m0 → ¬ bel (4 * p + j + 1) q) → A' q = A q) ∧ (∀ q, A' q = -2 → A q = -2) ∧ ∀ j, k ≤ j → j < m0 → ∀ q, lv fld fty n (tkid τ j) (kty fty τ t j) (4 * p + j + 1) q → ¬ A' q = -2
  | 0, k, A, hk, hH, hty => ⟨A, by rw [prd, Nat.one_mul], fun _ _ => rfl, fun _ h => h, fun j a b => by omega⟩
  | m + 1, k, A, hk, hH, hty => by
    obtain ⟨A1, e1, f1, g1, l1⟩ := hIH k A (by omega) (hH k (Nat.le_refl _) (by omega)) hty
    obtain ⟨A', e2, f2, g2, l2⟩ := prod_kids hW h3 hk6 hIH m (k + 1) A1 (by omega) (fun j a b => (hH j (by omega) b).frame hW (hk6 j b) fun q hq => by
      have := f1 q fun z => bel_dis (by omega) (by omega) (show k ≠ j by omega) z hq
      exact ⟨rfl, this, this⟩) (fun q hq h => hty q hq (g1 q h))
    have e3 : prd (fun k => pT cnt fld fty n (tkid τ k) (kty fty τ t k)) (m + 1) k = pT cnt fld fty n (tkid τ k) (kty fty τ t k) * prd (fun k => pT cnt fld fty n (tkid τ k) (kty fty τ t k)) m (k + 1) := rfl
    refine ⟨A', by rw [e1, e2, e3, Nat.mul_assoc], fun q hq => by rw [f2 q fun j a b => hq j (by omega) b, f1 q (hq k (Nat.le_refl _) (by omega))], fun q h => g1 q (g2 q h), fun j a b q hq => ?_⟩
    by_cases e : j = k
    · subst e
      exact fun z => l1 q hq (g2 q z)
    · exact l2 j (by omega) b q hq
theorem prod_tree (hW : TW cnt fld fty) : ∀ (n p t : Nat) (τ : TR) (A : Nat → Int32), n ≤ 4 → p < 4 ^ (4 - n) → bst 16 p + n = most → t < 6 → HT false cnt fld fty T A A n τ t p → (∀ q, q < 256 → A q = -2 → T q = nI (ty q) ∧ ty q < 6) →
    ∃ A', prd (hv cnt fld fty A ty most) 256 0 = pT cnt fld fty n τ t * prd (hv cnt fld fty A' ty most) 256 0 ∧ (∀ q, ¬ bel p q → A' q = A q) ∧ (∀ q, A' q = -2 → A q = -2) ∧ ∀ q, lv fld fty n τ t p q → ¬ A' q = -2 := by
  intro n
  have hole : ∀ {n p t : Nat} {τ : TR} {A : Nat → Int32}, n ≤ 4 → p < 4 ^ (4 - n) → bst 16 p + n = most → t < 6 → HT false cnt fld fty T A A n τ t p → (∀ q, q < 256 → A q = -2 → T q = nI (ty q) ∧ ty q < 6) → τ [] = 0 → hv cnt fld fty A ty most p = DN cnt fld fty (n + 1) t := by
    intro n p t τ A hn hp hb ht h hty h0
    obtain ⟨h1, h2, -⟩ := h.u hW ht
    have hA : A p = -2 := by rw [h2]; exact cod_hole h0
    obtain ⟨g1, g2⟩ := hty p (pw4 hn hp) hA
    have : t = ty p := (nI_eq (by omega) (by omega)).mp (h1.symm.trans g1)
    unfold hv
    rw [if_pos hA, ← this, show most + 1 - bst 16 p = n + 1 by omega]
  have nod : ∀ {n p t : Nat} {τ : TR} {A : Nat → Int32}, t < 6 → HT false cnt fld fty T A A n τ t p → ¬ τ [] = 0 → hv cnt fld fty A ty most p = 1 := by
    intro n p t τ A ht h h0
    obtain ⟨h1, h2, -⟩ := h.u hW ht
    unfold hv
    rw [if_neg (by rw [h2]; exact h.cod_ne hW ht h0)]
  have c1 : ∀ (A : Nat → Int32) (p q : Nat), ¬ bel p q → clr1 A p q = A q := fun A p q hq => by
    unfold clr1
    rw [if_neg (fun z => hq (by rw [z]; exact bel_self p))]
  have c2 : ∀ (A : Nat → Int32) (p q : Nat), clr1 A p q = -2 → A q = -2 := fun A p q hq => by
    unfold clr1 at hq
    by_cases z : q = p
    · rw [if_pos z] at hq; exact absurd hq (by decide)
    · rw [if_neg z] at hq; exact hq
  have c3 : ∀ (A : Nat → Int32) (p : Nat), ¬ clr1 A p p = -2 := fun A p => by unfold clr1; rw [if_pos rfl]; decide
  induction n with
  | zero =>
    intro p t τ A hn hp hb ht h hty
    refine ⟨clr1 A p, ?_, c1 A p, c2 A p, fun q hq => by rw [show q = p from hq]; exact c3 A p⟩
    rw [clr1_prd (pw4 hn hp), pT]
    by_cases h0 : τ [] = 0
    · rw [if_pos h0, hole hn hp hb ht h hty h0]
    · rw [if_neg h0, nod ht h h0]
  | succ n ih =>
    intro p t τ A hn hp hb ht h hty
    have hp6 := pw4 hn hp
    have hp64 : p < 64 := Nat.lt_of_lt_of_le hp (Nat.pow_le_pow_right (n := 4) (by decide) (show 4 - (n + 1) ≤ 3 by omega))
    obtain ⟨h1, h2, -, h4, h5⟩ := h.u hW ht
    by_cases h0 : τ [] = 0
    · have hfl : fl fld τ t = 0 := by rw [fl, h0]
      refine ⟨clr1 A p, ?_, c1 A p, c2 A p, fun q hq => ?_⟩
      · rw [clr1_prd hp6, pT, if_pos h0, hole hn hp hb ht h hty h0]
      · rcases hq with hq | ⟨k, hk, -⟩
        · rw [hq]; exact c3 A p
        · omega
    · obtain ⟨A', e1, f1, g1, l1⟩ := @prod_kids cnt fld fty ty T most n p (fl fld τ t) τ t hW h4 (fun k hk => (h5 k hk).2.1)
        (fun k A hk hH hty' => ih (4 * p + k + 1) _ _ A (by omega) (pw4k hn (by omega) hp) (by rw [bst_kid p hp64 k (by omega)]; omega) (h5 k hk).2.1 hH hty')
        (fl fld τ t) 0 (clr1 A p) (by omega) (fun j _ hj => (h5 j hj).2.2.frame hW (h5 j hj).2.1 fun q hq => by
          have hqp : q ≠ p := fun z => bel_up (by rw [z] at hq; exact hq)
          have : clr1 A p q = A q := by unfold clr1; rw [if_neg hqp]
          exact ⟨rfl, this, this⟩) (fun q hq z => hty q hq (c2 A p q z))
      refine ⟨A', ?_, fun q hq => by rw [f1 q fun j _ hj z => hq (bel_kid (by omega) z), c1 A p q hq], fun q z => c2 A p q (g1 q z), fun q hq => ?_⟩
      · rw [clr1_prd hp6, nod ht h h0, Nat.one_mul, e1, pT, if_neg h0]
      · rcases hq with hq | ⟨k, hk, hq⟩
        · exact fun z => c3 A p (g1 p (by rw [← hq]; exact z))
        · exact l1 k (Nat.zero_le _) hk q hq
/-- standsFor on both sides is the same -/
theorem prod_eq {A : Nat → Int32} {τ : TR} {t : Nat} (hW : TW cnt fld fty) (hm : most ≤ 4) (ht : t < 6) (h : HT false cnt fld fty T A A most τ t 0) (hty : ∀ q, q < 256 → A q = -2 → T q = nI (ty q) ∧ ty q < 6) (hl : ∀ q, q < 256 → A q = -2 → lv fld fty most τ t 0 q) : prd (hv cnt fld fty A ty most) 256 0 = pT cnt fld fty most τ t := by
  obtain ⟨A', e1, -, g1, l1⟩ := prod_tree (ty := ty) (most := most) hW most 0 t τ A hm (Nat.pow_pos (by decide)) (by rw [show bst 16 0 = 0 from rfl]; omega) ht h hty
  rw [e1, prd_one 256 0 fun i _ hi => ?_, Nat.mul_one]
  unfold hv
  rw [if_neg fun z => l1 i (hl i (by omega) (g1 i z)) z]
end PROD
