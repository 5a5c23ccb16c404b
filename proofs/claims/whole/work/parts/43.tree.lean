/-! ===== values as trees: at each list of steps 0 for a hole, c + 1 for the constructor c ===== -/
abbrev TR : Type := List Nat → Nat
def tkid (τ : TR) (k : Nat) : TR := fun r => τ (k :: r)
/-- q is at p or below it -/
def bel (p q : Nat) : Prop := ∃ m, q / 4 ^ m = p
theorem bel_self (p : Nat) : bel p p := ⟨0, by simp⟩
theorem bel_kid {p k q : Nat} (hk : k < 3) (h : bel (4 * p + k + 1) q) : bel p q := by
  obtain ⟨m, h⟩ := h
  exact ⟨m + 1, by rw [Nat.pow_succ, ← Nat.div_div_eq_div_mul, h]; omega⟩
theorem bel_up {p k : Nat} : ¬ bel (4 * p + k + 1) p := fun ⟨m, h⟩ => by
  have := Nat.div_le_self p (4 ^ m)
  omega
theorem bel_lt {a b q m1 m2 : Nat} (h1 : q / 4 ^ m1 = a) (h2 : q / 4 ^ m2 = b) (h : m1 < m2) : b ≤ a / 4 := by
  obtain ⟨r, rfl⟩ : ∃ r, m2 = m1 + 1 + r := ⟨m2 - m1 - 1, by omega⟩
  rw [← h2, Nat.pow_add, Nat.pow_add, ← Nat.div_div_eq_div_mul, ← Nat.div_div_eq_div_mul, h1, Nat.pow_one]
  exact Nat.div_le_self _ _
theorem bel_dis {p i j q : Nat} (hi : i < 3) (hj : j < 3) (hne : i ≠ j) (h1 : bel (4 * p + i + 1) q) (h2 : bel (4 * p + j + 1) q) : False := by
  obtain ⟨m1, h1⟩ := h1
  obtain ⟨m2, h2⟩ := h2
  rcases Nat.lt_trichotomy m1 m2 with h | h | h
  · have := bel_lt h1 h2 h; omega
  · subst h; omega
  · have := bel_lt h2 h1 h; omega
/-- rows T (types), A (constructors), N (numbers of fields, where asked for) hold the tree's head, of type t, at p -/
def HD (b : Bool) (cnt fld : Nat → Nat) (T A N : Nat → Int32) (τ : TR) (t p : Nat) : Prop :=
  T p = nI t ∧ (τ [] = 0 → A p = -2 ∧ (b = true → N p = 0)) ∧ ∀ c, τ [] = c + 1 → c < cnt t ∧ A p = nI c ∧ (b = true → N p = nI (fld (4 * t + c)))
/-- .. the whole tree, of at most n levels below -/
def HT (b : Bool) (cnt fld fty : Nat → Nat) (T A N : Nat → Int32) : Nat → TR → Nat → Nat → Prop
  | 0, τ, t, p => HD b cnt fld T A N τ t p ∧ ∀ c, τ [] = c + 1 → fld (4 * t + c) = 0
  | n + 1, τ, t, p => HD b cnt fld T A N τ t p ∧ ∀ c, τ [] = c + 1 → ∀ k, k < fld (4 * t + c) → HT b cnt fld fty T A N n (tkid τ k) (fty (3 * (4 * t + c) + k)) (4 * p + k + 1)
section TREE
variable {b : Bool} {cnt fld fty : Nat → Nat} {T A N T' A' N' : Nat → Int32} {τ : TR} {t p c k n : Nat}
theorem HT.hd : ∀ {n : Nat}, HT b cnt fld fty T A N n τ t p → HD b cnt fld T A N τ t p
  | 0, h => h.1
  | _ + 1, h => h.1
theorem HT.kid (h : HT b cnt fld fty T A N n τ t p) (hc : τ [] = c + 1) (hk : k < fld (4 * t + c)) : 0 < n ∧ HT b cnt fld fty T A N (n - 1) (tkid τ k) (fty (3 * (4 * t + c) + k)) (4 * p + k + 1) := by
  match n, h with
  | 0, h => have := h.2 c hc; omega
  | n + 1, h => exact ⟨by omega, h.2 c hc k hk⟩
theorem HT.mk (h : HD b cnt fld T A N τ t p) (h0 : ∀ c, τ [] = c + 1 → 0 < fld (4 * t + c) → 0 < n) (hk : ∀ c, τ [] = c + 1 → ∀ k, k < fld (4 * t + c) → HT b cnt fld fty T A N (n - 1) (tkid τ k) (fty (3 * (4 * t + c) + k)) (4 * p + k + 1)) : HT b cnt fld fty T A N n τ t p := by
  match n, h0, hk with
  | 0, h0, hk => exact ⟨h, fun c hc => Nat.eq_zero_of_not_pos fun q => absurd (h0 c hc q) (by omega)⟩
  | n + 1, h0, hk => exact ⟨h, hk⟩
theorem HD.frame (h : HD b cnt fld T A N τ t p) (hf : T' p = T p ∧ A' p = A p ∧ N' p = N p) : HD b cnt fld T' A' N' τ t p := by
  unfold HD
  rw [hf.1, hf.2.1, hf.2.2]
  exact h
/-- the bounds of the types -/
def TW (cnt fld fty : Nat → Nat) : Prop := (∀ t, t < 6 → cnt t ≤ 4) ∧ (∀ f, f < 24 → fld f ≤ 3) ∧ ∀ f, f < 24 → ∀ k, k < fld f → fty (3 * f + k) < 6
theorem TV.tw {I : Nat → Nat → Int32} {a b c : Nat} (h : TV I a b c cnt fld fty) : TW cnt fld fty := ⟨fun t ht => (h.1 t ht).2, fun f hf => (h.2.1 f hf).2, fun f hf k hk => (h.2.2 f hf k hk).2⟩
theorem TW.form (h : TW cnt fld fty) (ht : t < 6) (hc : c < cnt t) : 4 * t + c < 24 := by have := h.1 t ht; omega
theorem HT.frame (hW : TW cnt fld fty) : ∀ {n : Nat} {τ : TR} {t p : Nat}, HT b cnt fld fty T A N n τ t p → t < 6 → (∀ q, bel p q → T' q = T q ∧ A' q = A q ∧ N' q = N q) → HT b cnt fld fty T' A' N' n τ t p
  | 0, τ, t, p, h, ht, hf => ⟨h.1.frame (hf p (bel_self p)), h.2⟩
  | n + 1, τ, t, p, h, ht, hf => ⟨h.1.frame (hf p (bel_self p)), fun c hc k hk => HT.frame hW (h.2 c hc k hk) (hW.2.2 _ (hW.form ht (h.1.2.2 c hc).1) k hk) fun q hq => hf q (bel_kid (by have := hW.2.1 _ (hW.form ht (h.1.2.2 c hc).1); omega) hq)⟩
end TREE
/-! numbers of values -/
def prd (g : Nat → Nat) : Nat → Nat → Nat
  | 0, _ => 1
  | n + 1, j => g j * prd g n (j + 1)
def sm (g : Nat → Nat) : Nat → Nat → Nat
  | 0, _ => 0
  | n + 1, j => g j + sm g n (j + 1)
theorem capmul (a b : Nat) : min (min a mny * b) mny = min (a * b) mny := by
  rcases Nat.eq_zero_or_pos b with h | h
  · subst h; simp
  · by_cases ha : a ≤ mny
    · rw [Nat.min_eq_left ha]
    · have h1 : mny ≤ mny * b := Nat.le_mul_of_pos_right _ h
      have h2 : mny * b ≤ a * b := Nat.mul_le_mul_right b (by omega)
      rw [Nat.min_eq_right (show mny ≤ a by omega), Nat.min_eq_right h1, Nat.min_eq_right (Nat.le_trans h1 h2)]
theorem foldFN_eq {g : Nat → Nat} : ∀ (n j acc : Nat), acc ≤ mny → foldFN g n j acc = min (acc * prd g n j) mny
  | 0, j, acc, h => by rw [foldFN, prd, Nat.mul_one, Nat.min_eq_left h]
  | n + 1, j, acc, h => by rw [foldFN, foldFN_eq n (j + 1) _ (Nat.min_le_right _ _), capmul, prd, Nat.mul_assoc]
theorem foldCN_le_sm {g : Nat → Nat} : ∀ (n j acc : Nat), foldCN g n j acc ≤ acc + sm g n j
  | 0, j, acc => Nat.le_refl _
  | n + 1, j, acc => by
    rw [foldCN, sm]
    have h := foldCN_le_sm (g := g) n (j + 1) (min (acc + g j) mny)
    have := Nat.min_le_left (acc + g j) mny
    omega
/-- which constructor, and the number among its values -/
def pkC (g : Nat → Nat) : Nat → Nat → Nat → Nat × Nat
  | 0, c, r => (c, r)
  | n + 1, c, r => if r < g c then (c, r) else pkC g n (c + 1) (r - g c)
theorem pkC_ok {g : Nat → Nat} : ∀ (n c r : Nat), r < sm g (n + 1) c → c ≤ (pkC g n c r).1 ∧ (pkC g n c r).1 ≤ c + n ∧ (pkC g n c r).2 < g (pkC g n c r).1 ∧ (pkC g n c r).2 ≤ r
  | 0, c, r, h => by
    simp only [sm, Nat.add_zero] at h
    exact ⟨Nat.le_refl _, Nat.le_refl _, h, Nat.le_refl _⟩
  | n + 1, c, r, h => by
    rw [pkC]
    by_cases hr : r < g c
    · rw [if_pos hr]
      exact ⟨Nat.le_refl _, by simp, hr, Nat.le_refl _⟩
    · rw [if_neg hr]
      have h' : r < g c + sm g (n + 1) (c + 1) := h
      have h2 : r - g c < sm g (n + 1) (c + 1) := by omega
      obtain ⟨h1, h2, h3, h4⟩ := pkC_ok n (c + 1) (r - g c) h2
      exact ⟨by omega, by omega, h3, by omega⟩
/-- the constructor of the n-th value of depth below e + 1, and the number among the values with it; the number of its field k -/
def pkT (cnt fld fty : Nat → Nat) (e t n : Nat) : Nat × Nat := pkC (fun c => DFN cnt fld fty e (4 * t + c)) (cnt t - 1) 0 n
def fN (cnt fld fty : Nat → Nat) (e f : Nat) : Nat → Nat := fun j => DN cnt fld fty e (fty (3 * f + j))
def dg (g : Nat → Nat) (m r k : Nat) : Nat := r / prd g (m - (k + 1)) (k + 1) % g k
/-- the n-th value of depth below e -/
def bld (cnt fld fty : Nat → Nat) : Nat → Nat → Nat → TR
  | 0, _, _ => fun _ => 0
  | e + 1, t, n => fun r => match r with
    | [] => (pkT cnt fld fty e t n).1 + 1
    | k :: r => bld cnt fld fty e (fty (3 * (4 * t + (pkT cnt fld fty e t n).1) + k)) (dg (fN cnt fld fty e (4 * t + (pkT cnt fld fty e t n).1)) (fld (4 * t + (pkT cnt fld fty e t n).1)) (pkT cnt fld fty e t n).2 k) r
theorem bld_nil (cnt fld fty : Nat → Nat) (e t n : Nat) : bld cnt fld fty (e + 1) t n [] = (pkT cnt fld fty e t n).1 + 1 := rfl
theorem bld_kid (cnt fld fty : Nat → Nat) (e t n k : Nat) : tkid (bld cnt fld fty (e + 1) t n) k = bld cnt fld fty e (fty (3 * (4 * t + (pkT cnt fld fty e t n).1) + k)) (dg (fN cnt fld fty e (4 * t + (pkT cnt fld fty e t n).1)) (fld (4 * t + (pkT cnt fld fty e t n).1)) (pkT cnt fld fty e t n).2 k) := rfl
theorem DFN_prd (cnt fld fty : Nat → Nat) (e f : Nat) : DFN cnt fld fty e f = min (prd (fN cnt fld fty e f) (fld f) 0) mny := by
  rw [DFN, foldFN_eq _ _ _ (by decide), Nat.one_mul]; rfl
theorem pkT_ok (cnt fld fty : Nat → Nat) {e t n : Nat} (hn : n < DN cnt fld fty (e + 1) t) : (pkT cnt fld fty e t n).1 < cnt t ∧ (pkT cnt fld fty e t n).2 < DFN cnt fld fty e (4 * t + (pkT cnt fld fty e t n).1) ∧ (pkT cnt fld fty e t n).2 ≤ n := by
  rw [DN_succ] at hn
  have h1 := foldCN_le_sm (g := fun c => DFN cnt fld fty e (4 * t + c)) (cnt t) 0 0
  have h0 : 0 < cnt t := by
    apply Nat.pos_of_ne_zero
    intro z
    rw [z] at hn
    exact absurd hn (by simp [foldCN])
  obtain ⟨a, b, c, d⟩ := pkC_ok (g := fun c => DFN cnt fld fty e (4 * t + c)) (cnt t - 1) 0 n (by rw [Nat.sub_add_cancel h0]; omega)
  refine ⟨?_, c, d⟩
  unfold pkT
  omega
theorem prd_pos {g : Nat → Nat} : ∀ (n j : Nat), 0 < prd g n j → ∀ i, j ≤ i → i < j + n → 0 < g i
  | 0, j, h, i, h1, h2 => by omega
  | n + 1, j, h, i, h1, h2 => by
    rw [prd] at h
    have ha : 0 < g j := Nat.pos_of_mul_pos_right h
    have hb : 0 < prd g n (j + 1) := Nat.pos_of_mul_pos_left h
    by_cases e : i = j
    · subst e; exact ha
    · exact prd_pos n (j + 1) hb i (by omega) (by omega)
theorem prd_of {g : Nat → Nat} : ∀ (n j : Nat), (∀ i, j ≤ i → i < j + n → 0 < g i) → 0 < prd g n j
  | 0, j, h => Nat.one_pos
  | n + 1, j, h => Nat.mul_pos (h j (Nat.le_refl _) (by omega)) (prd_of n (j + 1) fun i h1 h2 => h i (by omega) (by omega))
theorem gL_mod {a b : Nat} (ha : a < 2 ^ 62) (hb : b < 2 ^ 62) : lN a - lN a / lN b * lN b = lN (a % b) := by
  rw [gL_div ha hb, lN_mul, lN_sub (Nat.div_mul_le_self a b)]
  congr 1
  have := Nat.div_add_mod a b
  rw [Nat.mul_comm] at this
  omega
/-- what fillIn's number of a field is, and what is left -/
theorem cap_div {r P : Nat} (hr : r < mny) : r / min P mny = r / P := by
  by_cases h : P ≤ mny
  · rw [Nat.min_eq_left h]
  · rw [Nat.min_eq_right (by omega), Nat.div_eq_of_lt hr, Nat.div_eq_of_lt (by omega)]
theorem cap_mod {r P : Nat} (hr : r < mny) : r % min P mny = r % P := by
  by_cases h : P ≤ mny
  · rw [Nat.min_eq_left h]
  · rw [Nat.min_eq_right (by omega), Nat.mod_eq_of_lt hr, Nat.mod_eq_of_lt (by omega)]
theorem TV.of {I I' : Nat → Nat → Int32} {a b c : Nat} {cnt fld fty : Nat → Nat} (h : TV I a b c cnt fld fty) (h1 : I' a = I a) (h2 : I' b = I b) (h3 : I' c = I c) : TV I' a b c cnt fld fty := by
  unfold TV
  rw [h1, h2, h3]
  exact h
