/-! ===== something put at a path of a tree ===== -/
def pt (p : Nat) (σ : TR) : Nat → TR → TR
  | 0, _ => σ
  | s + 1, τ => fun r => match r with
    | [] => τ []
    | k :: r' => if k = p / 4 ^ s % 4 - 1 then pt p σ s (tkid τ k) r' else τ (k :: r')
/-- a constructor with holes as fields -/
def ndH (c : Nat) : TR := fun r => match r with
  | [] => c + 1
  | _ :: _ => 0
section PUT
variable {b : Bool} {cnt fld fty : Nat → Nat} {T A N T' A' N' : Nat → Int32} {p : Nat} {σ σ' : TR}
theorem pt_nil (s : Nat) (τ : TR) : pt p σ (s + 1) τ [] = τ [] := rfl
theorem pt_kid (s : Nat) (τ : TR) : tkid (pt p σ (s + 1) τ) (p / 4 ^ s % 4 - 1) = pt p σ s (tkid τ (p / 4 ^ s % 4 - 1)) := by
  funext r
  show (if p / 4 ^ s % 4 - 1 = p / 4 ^ s % 4 - 1 then pt p σ s (tkid τ (p / 4 ^ s % 4 - 1)) r else _) = _
  rw [if_pos rfl]
theorem pt_other (s : Nat) (τ : TR) {k : Nat} (hk : k ≠ p / 4 ^ s % 4 - 1) : tkid (pt p σ (s + 1) τ) k = tkid τ k := by
  funext r
  show (if k = p / 4 ^ s % 4 - 1 then _ else τ (k :: r)) = _
  rw [if_neg hk]; rfl
theorem pt_fl (s : Nat) (τ : TR) (t : Nat) : fl fld (pt p σ (s + 1) τ) t = fl fld τ t := rfl
theorem pt_kty (s : Nat) (τ : TR) (t k : Nat) : kty fty (pt p σ (s + 1) τ) t k = kty fty τ t k := rfl
theorem pt_pt : ∀ (s : Nat) (τ : TR), pt p σ' s (pt p σ s τ) = pt p σ' s τ
  | 0, _ => rfl
  | s + 1, τ => by
    funext r
    match r with
    | [] => rfl
    | k :: r' =>
      show (if k = p / 4 ^ s % 4 - 1 then pt p σ' s (tkid (pt p σ (s + 1) τ) k) r' else pt p σ (s + 1) τ (k :: r')) = (if k = p / 4 ^ s % 4 - 1 then pt p σ' s (tkid τ k) r' else τ (k :: r'))
      by_cases h : k = p / 4 ^ s % 4 - 1
      · rw [if_pos h, if_pos h, h, pt_kid, pt_pt s]
      · rw [if_neg h, if_neg h]
        show (if k = p / 4 ^ s % 4 - 1 then _ else τ (k :: r')) = _
        rw [if_neg h]
/-- a walk that got there, step by step -/
theorem wk_succ {s t : Nat} {τ : TR} (h : (wk fld fty p (s + 1) τ t).1 = 1) : ¬ τ [] = 0 ∧ p / 4 ^ s % 4 ≤ fl fld τ t ∧ wk fld fty p (s + 1) τ t = wk fld fty p s (tkid τ (p / 4 ^ s % 4 - 1)) (kty fty τ t (p / 4 ^ s % 4 - 1)) := by
  rw [wk] at h ⊢
  by_cases h0 : τ [] = 0
  · rw [if_pos h0] at h
    exact absurd h (by simp)
  · rw [if_neg h0] at h ⊢
    by_cases h1 : fl fld τ t < p / 4 ^ s % 4
    · rw [if_pos h1] at h
      exact absurd h (by simp)
    · rw [if_neg h1]
      exact ⟨h0, by omega, rfl⟩
theorem wk_pt : ∀ (s t : Nat) (τ : TR), (wk fld fty p s τ t).1 = 1 → wk fld fty p s (pt p σ s τ) t = (1, σ, (wk fld fty p s τ t).2.2)
  | 0, t, τ, h => rfl
  | s + 1, t, τ, h => by
    obtain ⟨h0, h1, e⟩ := wk_succ h
    rw [e] at h ⊢
    rw [wk, if_neg (by rw [pt_nil]; exact h0), if_neg (by rw [pt_fl]; omega), pt_kid, pt_kty]
    exact wk_pt s _ _ h
theorem bel_anc {s q : Nat} (h : bel p q) : bel (p / 4 ^ s) q := by
  obtain ⟨m, e⟩ := h
  exact ⟨m + s, by rw [Nat.pow_add, ← Nat.div_div_eq_div_mul, e]⟩
theorem not_bel_anc {s : Nat} (hd : p / 4 ^ s % 4 ≠ 0) : ¬ bel p (p / 4 ^ (s + 1)) := by
  rintro ⟨m, e⟩
  have h1 : p / 4 ^ (s + 1) / 4 ^ m ≤ p / 4 ^ (s + 1) := Nat.div_le_self _ _
  have h2 : p / 4 ^ (s + 1) = p / 4 ^ s / 4 := by rw [Nat.pow_succ, ← Nat.div_div_eq_div_mul]
  have h3 : p / 4 ^ s ≤ p := Nat.div_le_self _ _
  rw [e, h2] at h1
  have h4 := (dg1 hd).1
  generalize p / 4 ^ s = u at *
  omega
theorem HT.pt (hW : TW cnt fld fty) (ho : ∀ q, ¬ bel p q → T' q = T q ∧ A' q = A q ∧ N' q = N q) : ∀ (s n t : Nat) (τ : TR), t < 6 → (∀ i, i < s → p / 4 ^ i % 4 ≠ 0) → HT b cnt fld fty T A N n τ t (p / 4 ^ s) → (wk fld fty p s τ t).1 = 1 → HT b cnt fld fty T' A' N' (n - s) σ (wk fld fty p s τ t).2.2 p → HT b cnt fld fty T' A' N' n (pt p σ s τ) t (p / 4 ^ s)
  | 0, n, t, τ, ht, hd, h, hw, hs => by
    rw [Nat.pow_zero, Nat.div_one]
    exact hs
  | s + 1, n, t, τ, ht, hd, h, hw, hs => by
    obtain ⟨h0, h1, e⟩ := wk_succ hw
    rw [e] at hw hs
    have hds := hd s (by omega)
    obtain ⟨-, -, -, h4, h5⟩ := h.u hW ht
    have hup := ho _ (not_bel_anc hds)
    obtain ⟨c, hc⟩ : ∃ c, τ [] = c + 1 := ⟨τ [] - 1, by omega⟩
    obtain ⟨k0, k6, kH⟩ := h5 (p / 4 ^ s % 4 - 1) (by omega)
    have e4 : 4 * (p / 4 ^ (s + 1)) + (p / 4 ^ s % 4 - 1) + 1 = p / 4 ^ s := by have := p4 p s; omega
    rw [e4] at kH
    refine HT.mk (h.hd.frame hup) (fun c' hc' _ => k0) (fun c' hc' k hk => ?_)
    have ec : c' = c := by rw [pt_nil, hc] at hc'; omega
    subst ec
    have efl : fl fld τ t = fld (4 * t + c') := by rw [fl, hc]
    have ekt : ∀ k, kty fty τ t k = fty (3 * (4 * t + c') + k) := fun k => by rw [kty, hc]; rfl
    by_cases hkd : k = p / 4 ^ s % 4 - 1
    · rw [hkd, pt_kid, e4, ← ekt]
      refine HT.pt hW ho s (n - 1) _ _ k6 (fun i hi => hd i (by omega)) kH hw ?_
      rw [show n - 1 - s = n - (s + 1) by omega]
      exact hs
    · rw [pt_other s τ hkd, ← ekt]
      obtain ⟨k0', k6', kH'⟩ := h5 k (by omega)
      refine kH'.frame hW k6' fun q hq => ho q fun z => ?_
      have z' : bel (p / 4 ^ s) q := bel_anc z
      rw [← e4] at z'
      exact bel_dis (by omega) (by omega) hkd hq z'
theorem lv_bel (hW : TW cnt fld fty) : ∀ (n t u : Nat) (τ : TR) {x : Nat}, t < 6 → HT b cnt fld fty T A N n τ t u → lv fld fty n τ t u x → bel u x
  | 0, t, u, τ, x, ht, h, hx => by rw [show x = u from hx]; exact bel_self u
  | n + 1, t, u, τ, x, ht, h, hx => by
    obtain ⟨-, -, -, h4, h5⟩ := h.u hW ht
    rcases hx with hx | ⟨k, hk, hx⟩
    · rw [hx]; exact bel_self u
    · obtain ⟨-, k6, kH⟩ := h5 k hk
      exact bel_kid (by omega) (lv_bel hW n _ _ _ k6 kH hx)
/-- the places of a tree with something put in -/
theorem lv_pt (hW : TW cnt fld fty) {x : Nat} : ∀ (s n t : Nat) (τ : TR), t < 6 → (∀ i, i < s → p / 4 ^ i % 4 ≠ 0) → HT b cnt fld fty T A N n τ t (p / 4 ^ s) → (wk fld fty p s τ t).1 = 1 → (lv fld fty n (pt p σ s τ) t (p / 4 ^ s) x ↔ (lv fld fty n τ t (p / 4 ^ s) x ∧ ¬ bel p x) ∨ lv fld fty (n - s) σ (wk fld fty p s τ t).2.2 p x)
  | 0, n, t, τ, ht, hd, h, hw => by
    rw [Nat.pow_zero, Nat.div_one] at h ⊢
    refine ⟨fun z => Or.inr z, fun z => ?_⟩
    rcases z with ⟨z1, z2⟩ | z
    · exact absurd (lv_bel hW n t p τ ht h z1) z2
    · exact z
  | s + 1, n, t, τ, ht, hd, h, hw => by
    obtain ⟨h0, h1, e⟩ := wk_succ hw
    rw [e] at hw ⊢
    have hds := hd s (by omega)
    obtain ⟨-, -, -, h4, h5⟩ := h.u hW ht
    obtain ⟨k0, k6, kH⟩ := h5 (p / 4 ^ s % 4 - 1) (by omega)
    have e4 : 4 * (p / 4 ^ (s + 1)) + (p / 4 ^ s % 4 - 1) + 1 = p / 4 ^ s := by have := p4 p s; omega
    obtain ⟨n', rfl⟩ : ∃ n', n = n' + 1 := ⟨n - 1, by omega⟩
    have kH2 := kH
    rw [e4] at kH2
    have ih := lv_pt hW (x := x) s n' _ _ k6 (fun i hi => hd i (by omega)) kH2 hw
    rw [show n' + 1 - (s + 1) = n' - s by omega]
    constructor
    · rintro (z | ⟨k, hk, z⟩)
      · exact Or.inl ⟨Or.inl z, by rw [z]; exact not_bel_anc hds⟩
      · rw [pt_fl] at hk
        rw [pt_kty] at z
        by_cases hkd : k = p / 4 ^ s % 4 - 1
        · subst hkd
          rw [pt_kid, e4] at z
          rcases ih.mp z with ⟨z1, z2⟩ | z1
          · exact Or.inl ⟨Or.inr ⟨_, hk, by rw [e4]; exact z1⟩, z2⟩
          · exact Or.inr z1
        · rw [pt_other s τ hkd] at z
          obtain ⟨-, k6', kH'⟩ := h5 k hk
          refine Or.inl ⟨Or.inr ⟨k, hk, z⟩, fun w => ?_⟩
          have z' : bel (p / 4 ^ s) x := bel_anc w
          rw [← e4] at z'
          exact bel_dis (by omega) (by omega) hkd (lv_bel hW n' _ _ _ k6' kH' z) z'
    · rintro (⟨z | ⟨k, hk, z⟩, z2⟩ | z)
      · exact Or.inl z
      · refine Or.inr ⟨k, by rw [pt_fl]; exact hk, ?_⟩
        rw [pt_kty]
        by_cases hkd : k = p / 4 ^ s % 4 - 1
        · subst hkd
          rw [pt_kid, e4]
          rw [e4] at z
          exact ih.mpr (Or.inl ⟨z, z2⟩)
        · rw [pt_other s τ hkd]
          exact z
      · refine Or.inr ⟨p / 4 ^ s % 4 - 1, by rw [pt_fl]; omega, ?_⟩
        rw [pt_kty, pt_kid, e4]
        exact ih.mpr (Or.inr z)
end PUT
