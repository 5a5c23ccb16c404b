/-! ===== how many constructors a tree has ===== -/
def nnT (fld fty : Nat → Nat) : Nat → TR → Nat → Nat
  | 0, τ, _ => if τ [] = 0 then 0 else 1
  | n + 1, τ, t => if τ [] = 0 then 0 else 1 + sm (fun k => nnT fld fty n (tkid τ k) (kty fty τ t k)) (fl fld τ t) 0
theorem sm_le {g : Nat → Nat} {B : Nat} : ∀ (n j : Nat), (∀ i, j ≤ i → i < j + n → g i ≤ B) → sm g n j ≤ n * B
  | 0, _, _ => Nat.zero_le _
  | n + 1, j, h => by
    rw [sm, Nat.succ_mul]
    have := h j (Nat.le_refl _) (by omega)
    have := sm_le (g := g) (B := B) n (j + 1) fun i a b => h i (by omega) (by omega)
    omega
theorem sm_upd {g g' : Nat → Nat} {k d : Nat} (hk : g' k = g k + d) (hne : ∀ i, i ≠ k → g' i = g i) : ∀ (n j : Nat), j ≤ k → k < j + n → sm g' n j = sm g n j + d
  | 0, j, a, b => by omega
  | n + 1, j, a, b => by
    rw [sm, sm]
    by_cases e : j = k
    · subst e
      have : ∀ (m i : Nat), j < i → sm g' m i = sm g m i := by
        intro m
        induction m with
        | zero => intro i _; rfl
        | succ m ih => intro i hi; rw [sm, sm, hne i (by omega), ih (i + 1) (by omega)]
      rw [this n (j + 1) (by omega), hk]
      omega
    · rw [hne j e, sm_upd hk hne n (j + 1) (by omega) (by omega)]
      omega
section NODES
variable {b : Bool} {cnt fld fty : Nat → Nat} {T A N : Nat → Int32} {p : Nat}
theorem nnT_le (hW : TW cnt fld fty) : ∀ (n t u : Nat) (τ : TR), t < 6 → HT b cnt fld fty T A N n τ t u → nnT fld fty n τ t ≤ bnd n
  | 0, t, u, τ, ht, h => by rw [nnT, bnd]; split <;> omega
  | n + 1, t, u, τ, ht, h => by
    obtain ⟨-, -, -, h4, h5⟩ := h.u hW ht
    rw [nnT, bnd]
    split
    · omega
    · have := sm_le (g := fun k => nnT fld fty n (tkid τ k) (kty fty τ t k)) (B := bnd n) (fl fld τ t) 0 fun i _ hi => nnT_le hW n _ _ _ (h5 i (by omega)).2.1 (h5 i (by omega)).2.2
      have : fl fld τ t * bnd n ≤ 3 * bnd n := Nat.mul_le_mul_right _ h4
      omega
/-- a constructor put at a hole makes one more -/
theorem nnT_pt (hW : TW cnt fld fty) {c : Nat} : ∀ (s n t : Nat) (τ : TR), t < 6 → (∀ i, i < s → p / 4 ^ i % 4 ≠ 0) → HT b cnt fld fty T A N n τ t (p / 4 ^ s) → (wk fld fty p s τ t).1 = 1 → (wk fld fty p s τ t).2.1 [] = 0 → nnT fld fty n (pt p (ndH c) s τ) t = nnT fld fty n τ t + 1
  | 0, n, t, τ, ht, hd, h, hw, h0 => by
    have h0' : τ [] = 0 := h0
    have z : ∀ (m t : Nat), nnT fld fty m hol t = 0 := fun m t => by cases m <;> rw [nnT, if_pos (show hol [] = 0 from rfl)]
    cases n with
    | zero => rw [nnT, nnT, if_pos h0', if_neg (show ¬ pt p (ndH c) 0 τ [] = 0 from fun z => absurd (show c + 1 = 0 from z) (by omega))]
    | succ n =>
      rw [nnT, nnT, if_pos h0', if_neg (show ¬ pt p (ndH c) 0 τ [] = 0 from fun z => absurd (show c + 1 = 0 from z) (by omega))]
      have : ∀ (m j : Nat), sm (fun k => nnT fld fty n (tkid (pt p (ndH c) 0 τ) k) (kty fty (pt p (ndH c) 0 τ) t k)) m j = 0 := by
        intro m
        induction m with
        | zero => intro j; rfl
        | succ m ih => intro j; rw [sm, ih]; exact z n _
      rw [this]
  | s + 1, n, t, τ, ht, hd, h, hw, h0 => by
    obtain ⟨g0, g1, e⟩ := wk_succ hw
    rw [e] at hw h0
    have hds := hd s (by omega)
    obtain ⟨-, -, -, h4, h5⟩ := h.u hW ht
    obtain ⟨k0, k6, kH⟩ := h5 (p / 4 ^ s % 4 - 1) (by omega)
    rw [show 4 * (p / 4 ^ (s + 1)) + (p / 4 ^ s % 4 - 1) + 1 = p / 4 ^ s by have := p4 p s; omega] at kH
    obtain ⟨n', rfl⟩ : ∃ n', n = n' + 1 := ⟨n - 1, by omega⟩
    have ih := nnT_pt hW (c := c) s n' _ _ k6 (fun i hi => hd i (by omega)) kH hw h0
    rw [nnT, nnT, if_neg g0, if_neg (show ¬ pt p (ndH c) (s + 1) τ [] = 0 from g0), pt_fl, Nat.add_assoc]
    congr 1
    refine sm_upd (k := p / 4 ^ s % 4 - 1) ?_ (fun i hi => ?_) _ 0 (Nat.zero_le _) (by omega)
    · show nnT fld fty n' (tkid (pt p (ndH c) (s + 1) τ) (p / 4 ^ s % 4 - 1)) _ = _
      rw [pt_kid, pt_kty]
      exact ih
    · show nnT fld fty n' (tkid (pt p (ndH c) (s + 1) τ) i) _ = _
      rw [pt_other s τ hi, pt_kty]
end NODES
