/-! ===== values by their sizes: bounds, and where a number leads ===== -/
def bq (n : Nat) : Nat := [1, 4, 16, 128, 768, 6144, 53248, 442368, 3735552, 33292288, 298844160, 2692743168].getD n 0
def bdS : Nat → Nat
  | 0 => 0
  | n + 1 => 4 * bq n
def cvB : Nat → Nat → Nat
  | 0, n => if n = 0 then 1 else 0
  | j + 1, n => sumP (fun p => bdS p * cvB j (n - p)) n 1
theorem cvB_le : ∀ n, n < 12 → ∀ j, j < 4 → cvB j n ≤ bq n := by decide +kernel
theorem bq_lt : ∀ n, n < 12 → bq n < 2 ^ 40 := by decide +kernel
theorem sumP_mono {g h : Nat → Nat} : ∀ (n p : Nat), (∀ i, p ≤ i → i < p + n → g i ≤ h i) → sumP g n p ≤ sumP h n p
  | 0, _, _ => Nat.le_refl _
  | n + 1, p, hq => by
    rw [sumP, sumP]
    have := hq p (Nat.le_refl _) (by omega)
    have := sumP_mono (g := g) (h := h) n (p + 1) fun i a b => hq i (by omega) (by omega)
    omega
theorem sumP_cap {g : Nat → Nat} {B : Nat} : ∀ (n p : Nat), (∀ i, p ≤ i → i < p + n → g i ≤ B) → sumP g n p ≤ n * B
  | 0, _, _ => Nat.zero_le _
  | n + 1, p, hq => by
    rw [sumP, Nat.succ_mul]
    have := hq p (Nat.le_refl _) (by omega)
    have := sumP_cap (g := g) (B := B) n (p + 1) fun i a b => hq i (by omega) (by omega)
    omega
theorem sumP_one {g : Nat → Nat} {i : Nat} : ∀ (n p : Nat), p ≤ i → i < p + n → g i ≤ sumP g n p
  | 0, p, a, b => by omega
  | n + 1, p, a, b => by
    rw [sumP]
    by_cases e : i = p
    · subst e; omega
    · have := sumP_one (g := g) (i := i) n (p + 1) (by omega) (by omega)
      omega
theorem sm_sumP (g : Nat → Nat) : ∀ (n p : Nat), sm g n p = sumP g n p
  | 0, _ => rfl
  | n + 1, p => by rw [sm, sumP, sm_sumP g n (p + 1)]
section SIZES
variable {S : Nat → Nat → Nat} {cnt fld fty : Nat → Nat} {f t s n : Nat}
theorem wW_le (hW : TW cnt fld fty) (hf : f < 24) {N : Nat} (hS : ∀ p u, p ≤ N → u < 6 → S p u ≤ bdS p) : ∀ (j n : Nat), n ≤ N → j ≤ fld f → wW S fld fty f j n ≤ cvB j n
  | 0, n, _, _ => by rw [wW, cvB]; exact Nat.le_refl _
  | j + 1, n, hn, hj => by
    rw [wW, cvB]
    exact sumP_mono _ _ fun i a b => Nat.mul_le_mul (hS i _ (by omega) (hW.2.2 f hf _ (by omega))) (wW_le hW hf hS j (n - i) (by omega) (by omega))
theorem SN_le (hW : TW cnt fld fty) : ∀ (N s t : Nat), s ≤ N → N ≤ 12 → t < 6 → SN cnt fld fty s t ≤ bdS s
  | 0, s, t, h, _, _ => by
    have : s = 0 := by omega
    subst this
    exact Nat.le_refl _
  | N + 1, s, t, h, hN, ht => by
    by_cases e : s ≤ N
    · exact SN_le hW N s t e (by omega) ht
    · have : s = N + 1 := by omega
      subst this
      rw [SN_succ, bdS]
      have h4 := hW.1 t ht
      have := sumP_cap (g := fun c => wW (SN cnt fld fty) fld fty (4 * t + c) (fld (4 * t + c)) N) (B := bq N) (cnt t) 0 fun c _ hc => by
        have hf := hW.form ht (show c < cnt t by omega)
        have h3 := hW.2.1 _ hf
        exact Nat.le_trans (wW_le hW hf (N := N) (fun p u hp hu => SN_le hW N p u hp (by omega) hu) _ N (Nat.le_refl _) (Nat.le_refl _)) (cvB_le N (by omega) _ (by omega))
      have : cnt t * bq N ≤ 4 * bq N := Nat.mul_le_mul_right _ h4
      omega
theorem SN_lt (hW : TW cnt fld fty) (hs : s ≤ 12) (ht : t < 6) : SN cnt fld fty s t < 2 ^ 42 := by
  have h := SN_le hW s s t (Nat.le_refl _) hs ht
  match s, hs, h with
  | 0, _, h => exact Nat.lt_of_le_of_lt h (by decide)
  | n + 1, hs, h =>
    have := bq_lt n (by omega)
    have h' : SN cnt fld fty (n + 1) t ≤ 4 * bq n := h
    omega
theorem wW_lt (hW : TW cnt fld fty) (hf : f < 24) {j m : Nat} (hj : j ≤ fld f) (hm : m < 12) : wW (SN cnt fld fty) fld fty f j m < 2 ^ 40 := by
  have h3 := hW.2.1 f hf
  have h1 := wW_le hW hf (S := SN cnt fld fty) (N := m) (fun p u hp hu => SN_le hW p p u (Nat.le_refl _) (by omega) hu) j m (Nat.le_refl _) hj
  have h2 := cvB_le m hm j (by omega)
  have := bq_lt m hm
  omega
/-! which -/
theorem pkC_congr {g h : Nat → Nat} : ∀ (n c r : Nat), (∀ i, c ≤ i → i < c + n → g i = h i) → pkC g n c r = pkC h n c r
  | 0, _, _, _ => rfl
  | n + 1, c, r, hq => by
    rw [pkC, pkC, hq c (Nat.le_refl _) (by omega), pkC_congr n (c + 1) (r - h c) fun i a b => hq i (by omega) (by omega)]
theorem pkC_zero {g : Nat → Nat} : ∀ (n c r : Nat), (∀ i, c ≤ i → i < c + n → g i = 0) → pkC g n c r = (c + n, r)
  | 0, _, _, _ => rfl
  | n + 1, c, r, hq => by
    rw [pkC, hq c (Nat.le_refl _) (by omega), if_neg (by omega), Nat.sub_zero, pkC_zero n (c + 1) r fun i a b => hq i (by omega) (by omega)]
    congr 1
    omega
theorem pkC_shift {g : Nat → Nat} (n c r : Nat) (h : g c = 0) : pkC g (n + 1) c r = pkC g n (c + 1) r := by
  rw [pkC, h, if_neg (by omega), Nat.sub_zero]
/-- in how many ways it goes on with a field of the size p -/
def shF (S : Nat → Nat → Nat) (fld fty : Nat → Nat) (f j bef left : Nat) : Nat → Nat := fun p => bef * (S p (fty (3 * f + (fld f - (j + 1)))) * wW S fld fty f j (left - p))
def shX (S : Nat → Nat → Nat) (fld fty : Nat → Nat) (f j bef left r : Nat) : Nat × Nat := pkC (shF S fld fty f j bef left) (left - 1) 1 r
/-- the sizes of the last j fields, and the number among the values with these sizes -/
def shr (S : Nat → Nat → Nat) (fld fty : Nat → Nat) (f : Nat) : Nat → Nat → Nat → Nat → (Nat → Nat) × Nat
  | 0, _, _, r => (fun _ => 0, r)
  | j + 1, bef, left, r => (fun k => if k = fld f - (j + 1) then (shX S fld fty f j bef left r).1 else (shr S fld fty f j (bef * S (shX S fld fty f j bef left r).1 (fty (3 * f + (fld f - (j + 1))))) (left - (shX S fld fty f j bef left r).1) (shX S fld fty f j bef left r).2).1 k,
      (shr S fld fty f j (bef * S (shX S fld fty f j bef left r).1 (fty (3 * f + (fld f - (j + 1))))) (left - (shX S fld fty f j bef left r).1) (shX S fld fty f j bef left r).2).2)
theorem shX_ok {j bef left r : Nat} (hr : r < bef * wW S fld fty f (j + 1) left) : 1 ≤ left ∧ 1 ≤ (shX S fld fty f j bef left r).1 ∧ (shX S fld fty f j bef left r).1 ≤ left ∧ (shX S fld fty f j bef left r).2 ≤ r ∧ r < sm (shF S fld fty f j bef left) left 1 ∧ (shX S fld fty f j bef left r).2 < bef * S (shX S fld fty f j bef left r).1 (fty (3 * f + (fld f - (j + 1)))) * wW S fld fty f j (left - (shX S fld fty f j bef left r).1) ∧
    bef * S (shX S fld fty f j bef left r).1 (fty (3 * f + (fld f - (j + 1)))) * wW S fld fty f j (left - (shX S fld fty f j bef left r).1) ≤ bef * wW S fld fty f (j + 1) left := by
  have e : bef * wW S fld fty f (j + 1) left = sm (shF S fld fty f j bef left) left 1 := by
    rw [wW, ← sumP_mul, sm_sumP]; rfl
  have h1 : 1 ≤ left := by
    apply Nat.pos_of_ne_zero
    intro z
    rw [e, z] at hr
    exact absurd hr (by simp [sm])
  rw [e] at hr
  obtain ⟨a, b, c, d⟩ := pkC_ok (g := shF S fld fty f j bef left) (left - 1) 1 r (by rw [Nat.sub_add_cancel h1]; exact hr)
  have hm : ∀ p, shF S fld fty f j bef left p = bef * S p (fty (3 * f + (fld f - (j + 1)))) * wW S fld fty f j (left - p) := fun p => by
    unfold shF
    rw [Nat.mul_assoc]
  refine ⟨h1, a, by unfold shX; omega, d, hr, ?_, ?_⟩
  · have c' : (shX S fld fty f j bef left r).2 < shF S fld fty f j bef left (shX S fld fty f j bef left r).1 := c
    rw [hm] at c'
    exact c'
  · rw [e, sm_sumP, ← hm]
    exact sumP_one _ _ a (by unfold shX; omega)
theorem sm_congr {g h : Nat → Nat} : ∀ (n p : Nat), (∀ i, p ≤ i → i < p + n → g i = h i) → sm g n p = sm h n p := fun n p hq => by
  rw [sm_sumP, sm_sumP]; exact sumP_congr n p hq
theorem shr_ok : ∀ (j bef left r : Nat), j ≤ fld f → r < bef * wW S fld fty f j left →
    (∀ k, fld f - j ≤ k → k < fld f → 1 ≤ (shr S fld fty f j bef left r).1 k ∧ (shr S fld fty f j bef left r).1 k ≤ left) ∧ sm (shr S fld fty f j bef left r).1 j (fld f - j) = left ∧ (shr S fld fty f j bef left r).2 ≤ r ∧ (shr S fld fty f j bef left r).2 < bef * prd (fun k => S ((shr S fld fty f j bef left r).1 k) (fty (3 * f + k))) j (fld f - j)
  | 0, bef, left, r, hj, hr => by
    have h0 : left = 0 := by
      apply Decidable.byContradiction
      intro z
      rw [wW, if_neg z, Nat.mul_zero] at hr
      omega
    rw [wW, if_pos h0] at hr
    exact ⟨fun k a b => by omega, by rw [sm, h0], Nat.le_refl _, hr⟩
  | j + 1, bef, left, r, hj, hr => by
    obtain ⟨x1, x2, x3, x4, x5, x6, x7⟩ := shX_ok hr
    obtain ⟨a1, a2, a3, a4⟩ := shr_ok j _ _ _ (by omega) x6
    have hk : ∀ k, k ≠ fld f - (j + 1) → (shr S fld fty f (j + 1) bef left r).1 k = (shr S fld fty f j (bef * S (shX S fld fty f j bef left r).1 (fty (3 * f + (fld f - (j + 1))))) (left - (shX S fld fty f j bef left r).1) (shX S fld fty f j bef left r).2).1 k := fun k hk => if_neg hk
    have hk0 : (shr S fld fty f (j + 1) bef left r).1 (fld f - (j + 1)) = (shX S fld fty f j bef left r).1 := if_pos rfl
    refine ⟨fun k b1 b2 => ?_, ?_, Nat.le_trans a3 x4, ?_⟩
    · by_cases e : k = fld f - (j + 1)
      · rw [e, hk0]; exact ⟨x2, x3⟩
      · rw [hk k e]
        obtain ⟨c1, c2⟩ := a1 k (by omega) b2
        exact ⟨c1, by omega⟩
    · rw [sm, hk0, sm_congr j _ (fun i b1 b2 => hk i (by omega)), show fld f - (j + 1) + 1 = fld f - j by omega, a2]
      omega
    · rw [prd, hk0, prd_congr j _ (h := fun k => S ((shr S fld fty f j (bef * S (shX S fld fty f j bef left r).1 (fty (3 * f + (fld f - (j + 1))))) (left - (shX S fld fty f j bef left r).1) (shX S fld fty f j bef left r).2).1 k) (fty (3 * f + k))) (fun i b1 b2 => by rw [hk i (by omega)]), show fld f - (j + 1) + 1 = fld f - j by omega, ← Nat.mul_assoc]
      exact a4
/-- the constructor, and the number among its values -/
def szC (cnt fld fty : Nat → Nat) (m t n : Nat) : Nat × Nat := pkC (fun c => wW (SN cnt fld fty) fld fty (4 * t + c) (fld (4 * t + c)) m) (cnt t - 1) 0 n
def szP (cnt fld fty : Nat → Nat) (m t n : Nat) : (Nat → Nat) × Nat := shr (SN cnt fld fty) fld fty (4 * t + (szC cnt fld fty m t n).1) (fld (4 * t + (szC cnt fld fty m t n).1)) 1 m (szC cnt fld fty m t n).2
def szG (cnt fld fty : Nat → Nat) (m t n : Nat) : Nat → Nat := fun k => SN cnt fld fty ((szP cnt fld fty m t n).1 k) (fty (3 * (4 * t + (szC cnt fld fty m t n).1) + k))
/-- the row of the n-th value of the size s -/
def szL (cnt fld fty : Nat → Nat) : Nat → Nat → Nat → Nat → List Int32
  | 0, _, _, _ => []
  | e + 1, s, t, n => nI (szC cnt fld fty (s - 1) t n).1 :: cat (fun k => szL cnt fld fty e ((szP cnt fld fty (s - 1) t n).1 k) (fty (3 * (4 * t + (szC cnt fld fty (s - 1) t n).1) + k)) (dg (szG cnt fld fty (s - 1) t n) (fld (4 * t + (szC cnt fld fty (s - 1) t n).1)) (szP cnt fld fty (s - 1) t n).2 k)) (fld (4 * t + (szC cnt fld fty (s - 1) t n).1)) 0
theorem szC_ok {m : Nat} (hn : n < SN cnt fld fty (m + 1) t) : (szC cnt fld fty m t n).1 < cnt t ∧ (szC cnt fld fty m t n).2 < wW (SN cnt fld fty) fld fty (4 * t + (szC cnt fld fty m t n).1) (fld (4 * t + (szC cnt fld fty m t n).1)) m ∧ (szC cnt fld fty m t n).2 ≤ n ∧ n < sm (fun c => wW (SN cnt fld fty) fld fty (4 * t + c) (fld (4 * t + c)) m) (cnt t - 1 + 1) 0 ∧ 0 < cnt t := by
  rw [SN_succ, ← sm_sumP] at hn
  have h0 : 0 < cnt t := by
    apply Nat.pos_of_ne_zero
    intro z
    rw [z] at hn
    exact absurd hn (by simp [sm])
  have hn' : n < sm (fun c => wW (SN cnt fld fty) fld fty (4 * t + c) (fld (4 * t + c)) m) (cnt t - 1 + 1) 0 := by rw [Nat.sub_add_cancel h0]; exact hn
  obtain ⟨a, b, c, d⟩ := pkC_ok (g := fun c => wW (SN cnt fld fty) fld fty (4 * t + c) (fld (4 * t + c)) m) (cnt t - 1) 0 n hn'
  exact ⟨by unfold szC; omega, c, d, hn', h0⟩
theorem szP_ok {m : Nat} (hn : n < SN cnt fld fty (m + 1) t) : (∀ k, k < fld (4 * t + (szC cnt fld fty m t n).1) → 1 ≤ (szP cnt fld fty m t n).1 k ∧ (szP cnt fld fty m t n).1 k ≤ m) ∧ sm (szP cnt fld fty m t n).1 (fld (4 * t + (szC cnt fld fty m t n).1)) 0 = m ∧ (szP cnt fld fty m t n).2 ≤ n ∧ (szP cnt fld fty m t n).2 < prd (szG cnt fld fty m t n) (fld (4 * t + (szC cnt fld fty m t n).1)) 0 := by
  obtain ⟨c1, c2, c3, -, -⟩ := szC_ok hn
  obtain ⟨a1, a2, a3, a4⟩ := shr_ok (S := SN cnt fld fty) (fld := fld) (fty := fty) (f := 4 * t + (szC cnt fld fty m t n).1) (fld (4 * t + (szC cnt fld fty m t n).1)) 1 m (szC cnt fld fty m t n).2 (Nat.le_refl _) (by rw [Nat.one_mul]; exact c2)
  rw [Nat.sub_self] at a1 a2 a4
  rw [Nat.one_mul] at a4
  exact ⟨fun k hk => a1 k (Nat.zero_le _) hk, a2, Nat.le_trans a3 c3, a4⟩
theorem szG_pos {m : Nat} (hn : n < SN cnt fld fty (m + 1) t) {k : Nat} (hk : k < fld (4 * t + (szC cnt fld fty m t n).1)) : 0 < szG cnt fld fty m t n k := by
  obtain ⟨-, -, -, h⟩ := szP_ok hn
  exact prd_pos (g := szG cnt fld fty m t n) (fld (4 * t + (szC cnt fld fty m t n).1)) 0 (by omega) k (Nat.zero_le _) (by omega)
theorem cat_len_eq {g : Nat → List Int32} {h : Nat → Nat} : ∀ (n k : Nat), (∀ i, k ≤ i → i < k + n → (g i).length = h i) → (cat g n k).length = sm h n k
  | 0, k, _ => rfl
  | n + 1, k, hq => by
    rw [cat, List.length_append, sm, hq k (Nat.le_refl _) (by omega), cat_len_eq n (k + 1) fun i a b => hq i (by omega) (by omega)]
theorem szL_len (hW : TW cnt fld fty) : ∀ (e s t n : Nat), s ≤ e → 1 ≤ s → t < 6 → n < SN cnt fld fty s t → (szL cnt fld fty e s t n).length = s
  | 0, s, t, n, h, h1, _, _ => by omega
  | e + 1, s, t, n, h, h1, ht, hn => by
    obtain ⟨m, rfl⟩ : ∃ m, s = m + 1 := ⟨s - 1, by omega⟩
    obtain ⟨c1, -, -, -, -⟩ := szC_ok hn
    obtain ⟨a1, a2, a3, a4⟩ := szP_ok hn
    have hf := hW.form ht c1
    have hc := cat_len_eq (g := fun k => szL cnt fld fty e ((szP cnt fld fty m t n).1 k) (fty (3 * (4 * t + (szC cnt fld fty m t n).1) + k)) (dg (szG cnt fld fty m t n) (fld (4 * t + (szC cnt fld fty m t n).1)) (szP cnt fld fty m t n).2 k)) (h := (szP cnt fld fty m t n).1) (fld (4 * t + (szC cnt fld fty m t n).1)) 0 fun i _ hi => szL_len hW e _ _ _ (by have := (a1 i (by omega)).2; omega) (a1 i (by omega)).1 (hW.2.2 _ hf i (by omega)) (Nat.mod_lt _ (szG_pos hn (by omega)))
    rw [szL, List.length_cons, Nat.add_sub_cancel, hc, a2]
/-! the reference's way through the sizes x, y, the rest -/
def rfX (S : Nat → Nat → Nat) (fld fty : Nat → Nat) (f N r : Nat) : Nat × Nat := pkC (fun x => sumP (fun y => by3 S fld fty f x y (N - x - y)) (N + 1 - x) 0) N 0 r
def rfY (S : Nat → Nat → Nat) (fld fty : Nat → Nat) (f N r : Nat) : Nat × Nat := pkC (fun y => by3 S fld fty f (rfX S fld fty f N r).1 y (N - (rfX S fld fty f N r).1 - y)) (N - (rfX S fld fty f N r).1) 0 (rfX S fld fty f N r).2
def rfK (S : Nat → Nat → Nat) (fld fty : Nat → Nat) (f N r k : Nat) : Nat := if k = 0 then (rfX S fld fty f N r).1 else if k = 1 then (rfY S fld fty f N r).1 else N - (rfX S fld fty f N r).1 - (rfY S fld fty f N r).1
theorem ref_eq (h0 : ∀ t, S 0 t = 0) (h3 : fld f ≤ 3) {N r : Nat} (hr : r < wW S fld fty f (fld f) N) :
    (shr S fld fty f (fld f) 1 N r).2 = (rfY S fld fty f N r).2 ∧ ∀ k, k < fld f → (shr S fld fty f (fld f) 1 N r).1 k = rfK S fld fty f N r k := by
  have w0 : ∀ m, wW S fld fty f 0 m = if m = 0 then 1 else 0 := fun m => by rw [wW]
  rcases (show fld f = 0 ∨ fld f = 1 ∨ fld f = 2 ∨ fld f = 3 by omega) with hf | hf | hf | hf
  · rw [hf] at hr ⊢
    have hN : N = 0 := by
      apply Decidable.byContradiction
      intro z
      rw [w0, if_neg z] at hr
      omega
    subst hN
    exact ⟨rfl, fun k hk => by omega⟩
  · have e : ∀ x y z, by3 S fld fty f x y z = if z = 0 then if y = 0 then S x (fty (3 * f)) else 0 else 0 := fun x y z => by
      simp [by3, by1, by0, hf]
    have hr1 : r < 1 * wW S fld fty f (0 + 1) N := by rw [Nat.one_mul]; rw [hf] at hr; exact hr
    obtain ⟨x1, -, -, -, -, -, -⟩ := shX_ok hr1
    have ex : shX S fld fty f 0 1 N r = (N, r) := by
      unfold shX
      rw [pkC_zero (N - 1) 1 r fun i a b => by unfold shF; rw [w0, if_neg (by omega), Nat.mul_zero, Nat.mul_zero]]
      congr 1
      omega
    have eX : rfX S fld fty f N r = (N, r) := by
      unfold rfX
      rw [pkC_zero N 0 r fun i a b => sumP_zero _ _ fun y _ hy => by
        rw [e]
        by_cases h1 : N - i - y = 0
        · rw [if_pos h1, if_neg (by omega)]
        · rw [if_neg h1], Nat.zero_add]
    have eY : rfY S fld fty f N r = (0, r) := by
      unfold rfY
      rw [eX]
      show pkC _ (N - N) 0 r = _
      rw [Nat.sub_self, pkC]
    rw [hf]
    refine ⟨?_, fun k hk => ?_⟩
    · show (shX S fld fty f 0 1 N r).2 = _
      rw [ex, eY]
    · have : k = 0 := by omega
      subst this
      show (if 0 = fld f - (0 + 1) then (shX S fld fty f 0 1 N r).1 else _) = _
      rw [if_pos (by omega), ex, rfK, if_pos rfl, eX]
  · have e : ∀ x y z, by3 S fld fty f x y z = if z = 0 then S x (fty (3 * f)) * S y (fty (3 * f + 1)) else 0 := fun x y z => by
      simp [by3, by1, by0, hf]
    have e2 : ∀ x, x ≤ N → sumP (fun y => by3 S fld fty f x y (N - x - y)) (N + 1 - x) 0 = S x (fty (3 * f)) * S (N - x) (fty (3 * f + 1)) := by
      intro x hx
      rw [sumP_single (N - x) (N + 1 - x) 0 (Nat.zero_le _) (by omega) (fun y _ hy hne => by rw [e, if_neg (by omega)]), e, Nat.sub_self, if_pos rfl]
    have hr1 : r < 1 * wW S fld fty f (1 + 1) N := by rw [Nat.one_mul]; rw [hf] at hr; exact hr
    obtain ⟨x1, x2, x3, x4, x5, x6, x7⟩ := shX_ok hr1
    have eX : rfX S fld fty f N r = shX S fld fty f 1 1 N r := by
      unfold rfX shX
      obtain ⟨N', rfl⟩ : ∃ N', N = N' + 1 := ⟨N - 1, by omega⟩
      rw [pkC_shift N' 0 r (by rw [e2 0 (Nat.zero_le _), h0, Nat.zero_mul])]
      refine pkC_congr _ _ _ fun i a b => ?_
      unfold shF
      rw [e2 i (by omega), wW_1 h0, hf, Nat.one_mul]
      rfl
    obtain ⟨y1, -, -, -, -, -, -⟩ := shX_ok x6
    have ex : shX S fld fty f 0 (1 * S (shX S fld fty f 1 1 N r).1 (fty (3 * f + (fld f - (1 + 1))))) (N - (shX S fld fty f 1 1 N r).1) (shX S fld fty f 1 1 N r).2 = (N - (shX S fld fty f 1 1 N r).1, (shX S fld fty f 1 1 N r).2) := by
      generalize hq : shX S fld fty f 1 1 N r = q at *
      unfold shX
      rw [pkC_zero _ 1 _ fun i a b => by unfold shF; rw [w0, if_neg (by omega), Nat.mul_zero, Nat.mul_zero]]
      congr 1
      omega
    have eY : rfY S fld fty f N r = (N - (shX S fld fty f 1 1 N r).1, (shX S fld fty f 1 1 N r).2) := by
      unfold rfY
      rw [eX, pkC_zero _ 0 _ fun i a b => by rw [e, if_neg (by omega)], Nat.zero_add]
    rw [hf]
    refine ⟨?_, fun k hk => ?_⟩
    · show (shX S fld fty f 0 _ _ _).2 = _
      rw [ex, eY]
    · by_cases hk0 : k = 0
      · subst hk0
        show (if 0 = fld f - (1 + 1) then (shX S fld fty f 1 1 N r).1 else _) = _
        rw [if_pos (by omega), rfK, if_pos rfl, eX]
      · have : k = 1 := by omega
        subst this
        show (if 1 = fld f - (1 + 1) then (shX S fld fty f 1 1 N r).1 else if 1 = fld f - (0 + 1) then (shX S fld fty f 0 _ _ _).1 else _) = _
        rw [if_neg (by omega), if_pos (by omega), ex, rfK, if_neg (by omega), if_pos rfl, eY]
  · have e : ∀ x y z, by3 S fld fty f x y z = S x (fty (3 * f)) * (S y (fty (3 * f + 1)) * S z (fty (3 * f + 2))) := fun x y z => by
      simp [by3, by1, by0, hf, Nat.mul_assoc]
    have e2 : ∀ x, x ≤ N → sumP (fun y => by3 S fld fty f x y (N - x - y)) (N + 1 - x) 0 = S x (fty (3 * f)) * wW S fld fty f 2 (N - x) := by
      intro x hx
      rw [wW, hf, sumP_congr _ _ (fun y _ _ => e x y (N - x - y)), sumP_mul]
      congr 1
      rw [show N + 1 - x = (N - x) + 1 by omega, sumP, h0, Nat.zero_mul, Nat.zero_add]
      exact sumP_congr _ _ fun y h1 h2 => by rw [wW_1 h0, hf]
    have hr1 : r < 1 * wW S fld fty f (2 + 1) N := by rw [Nat.one_mul]; rw [hf] at hr; exact hr
    obtain ⟨x1, x2, x3, x4, x5, x6, x7⟩ := shX_ok hr1
    have eX : rfX S fld fty f N r = shX S fld fty f 2 1 N r := by
      unfold rfX shX
      obtain ⟨N', rfl⟩ : ∃ N', N = N' + 1 := ⟨N - 1, by omega⟩
      rw [pkC_shift N' 0 r (by rw [e2 0 (Nat.zero_le _), h0, Nat.zero_mul])]
      refine pkC_congr _ _ _ fun i a b => ?_
      unfold shF
      rw [e2 i (by omega), hf, Nat.one_mul]
      rfl
    obtain ⟨y1, y2, y3, y4, y5, y6, y7⟩ := shX_ok x6
    have eY : rfY S fld fty f N r = shX S fld fty f 1 (1 * S (shX S fld fty f 2 1 N r).1 (fty (3 * f + (fld f - (2 + 1))))) (N - (shX S fld fty f 2 1 N r).1) (shX S fld fty f 2 1 N r).2 := by
      unfold rfY
      rw [eX]
      generalize hq : shX S fld fty f 2 1 N r = q at *
      unfold shX
      obtain ⟨N', hN'⟩ : ∃ N', N - q.1 = N' + 1 := ⟨N - q.1 - 1, by omega⟩
      rw [hN', pkC_shift N' 0 q.2 (by rw [e, h0, Nat.zero_mul, Nat.mul_zero])]
      refine pkC_congr _ _ _ fun i a b => ?_
      unfold shF
      rw [e, wW_1 h0, hf, Nat.one_mul]
      rfl
    obtain ⟨z1, -, -, -, -, -, -⟩ := shX_ok y6
    have ex : ∀ (b left r : Nat), 1 ≤ left → shX S fld fty f 0 b left r = (left, r) := fun b left r hl => by
      unfold shX
      rw [pkC_zero (left - 1) 1 r fun i a b => by unfold shF; rw [w0, if_neg (by omega), Nat.mul_zero, Nat.mul_zero]]
      congr 1
      omega
    rw [hf]
    refine ⟨?_, fun k hk => ?_⟩
    · show (shX S fld fty f 0 _ _ _).2 = _
      rw [ex _ _ _ z1, eY]
    · rcases (show k = 0 ∨ k = 1 ∨ k = 2 by omega) with hk0 | hk0 | hk0
      · subst hk0
        show (if 0 = fld f - (2 + 1) then (shX S fld fty f 2 1 N r).1 else _) = _
        rw [if_pos (by omega), rfK, if_pos rfl, eX]
      · subst hk0
        show (if 1 = fld f - (2 + 1) then _ else if 1 = fld f - (1 + 1) then (shX S fld fty f 1 _ _ _).1 else _) = _
        rw [if_neg (by omega), if_pos (by omega), rfK, if_neg (by omega), if_pos rfl, eY]
      · subst hk0
        show (if 2 = fld f - (2 + 1) then _ else if 2 = fld f - (1 + 1) then _ else if 2 = fld f - (0 + 1) then (shX S fld fty f 0 _ _ _).1 else _) = _
        rw [if_neg (by omega), if_neg (by omega), if_pos (by omega), ex _ _ _ z1, rfK, if_neg (by omega), if_neg (by omega), eX, eY]
end SIZES
section SIZES2
variable {S : Nat → Nat → Nat} {cnt fld fty : Nat → Nat} {f t s n : Nat}
theorem shr_le : ∀ (j bef left r : Nat), j ≤ fld f → r < bef * wW S fld fty f j left → bef * prd (fun k => S ((shr S fld fty f j bef left r).1 k) (fty (3 * f + k))) j (fld f - j) ≤ bef * wW S fld fty f j left
  | 0, bef, left, r, hj, hr => by
    have h0 : left = 0 := by
      apply Decidable.byContradiction
      intro z
      rw [wW, if_neg z, Nat.mul_zero] at hr
      omega
    rw [wW, if_pos h0, prd]
    exact Nat.le_refl _
  | j + 1, bef, left, r, hj, hr => by
    obtain ⟨x1, x2, x3, x4, x5, x6, x7⟩ := shX_ok hr
    have ih := shr_le j _ _ _ (by omega) x6
    have hk : ∀ k, k ≠ fld f - (j + 1) → (shr S fld fty f (j + 1) bef left r).1 k = (shr S fld fty f j (bef * S (shX S fld fty f j bef left r).1 (fty (3 * f + (fld f - (j + 1))))) (left - (shX S fld fty f j bef left r).1) (shX S fld fty f j bef left r).2).1 k := fun k hk => if_neg hk
    have hk0 : (shr S fld fty f (j + 1) bef left r).1 (fld f - (j + 1)) = (shX S fld fty f j bef left r).1 := if_pos rfl
    rw [prd, hk0, prd_congr j _ (h := fun k => S ((shr S fld fty f j (bef * S (shX S fld fty f j bef left r).1 (fty (3 * f + (fld f - (j + 1))))) (left - (shX S fld fty f j bef left r).1) (shX S fld fty f j bef left r).2).1 k) (fty (3 * f + k))) (fun i b1 b2 => by rw [hk i (by omega)]), show fld f - (j + 1) + 1 = fld f - j by omega, ← Nat.mul_assoc]
    exact Nat.le_trans ih x7
theorem prd_split {g : Nat → Nat} : ∀ (a b j : Nat), prd g (a + b) j = prd g a j * prd g b (j + a)
  | 0, b, j => by rw [Nat.zero_add, prd, Nat.one_mul, Nat.add_zero]
  | a + 1, b, j => by
    rw [show a + 1 + b = (a + b) + 1 by omega, prd, prd, prd_split a b (j + 1), Nat.mul_assoc, show j + 1 + a = j + (a + 1) by omega]
theorem szG_lt (hW : TW cnt fld fty) (ht : t < 6) {m : Nat} (hm : m < 12) (hn : n < SN cnt fld fty (m + 1) t) {i k : Nat} (hk : k + i = fld (4 * t + (szC cnt fld fty m t n).1)) : prd (szG cnt fld fty m t n) i k < 2 ^ 40 ∧ 0 < prd (szG cnt fld fty m t n) i k := by
  obtain ⟨c1, c2, -, -, -⟩ := szC_ok hn
  have h1 := shr_le (S := SN cnt fld fty) (fld := fld) (fty := fty) (f := 4 * t + (szC cnt fld fty m t n).1) (fld (4 * t + (szC cnt fld fty m t n).1)) 1 m (szC cnt fld fty m t n).2 (Nat.le_refl _) (by rw [Nat.one_mul]; exact c2)
  rw [Nat.one_mul, Nat.one_mul, Nat.sub_self] at h1
  have h1' : prd (szG cnt fld fty m t n) (fld (4 * t + (szC cnt fld fty m t n).1)) 0 ≤ wW (SN cnt fld fty) fld fty (4 * t + (szC cnt fld fty m t n).1) (fld (4 * t + (szC cnt fld fty m t n).1)) m := h1
  have h2 := wW_lt hW (hW.form ht c1) (Nat.le_refl _) hm
  rw [← hk, prd_split k i 0, Nat.zero_add] at h1'
  have h3 : 0 < prd (szG cnt fld fty m t n) k 0 := prd_of _ _ fun j a b => szG_pos hn (by omega)
  have h4 := Nat.le_mul_of_pos_left (prd (szG cnt fld fty m t n) i k) h3
  rw [hk] at h1'
  exact ⟨by omega, prd_of _ _ fun j a b => szG_pos hn (by omega)⟩
end SIZES2
