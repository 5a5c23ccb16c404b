/-! ===== trees with nothing below a hole ===== -/
def HolP (τ : TR) : Prop := ∀ r r', τ r = 0 → τ (r ++ r') = 0
section HOLP
variable {fld fty : Nat → Nat} {p : Nat} {σ τ : TR}
theorem HolP.kid (h : HolP τ) (k : Nat) : HolP (tkid τ k) := fun r r' z => h (k :: r) r' z
theorem HolP.is (h : HolP τ) (h0 : τ [] = 0) : τ = hol := funext fun r => h [] r h0
theorem HolP_hol : HolP hol := fun _ _ _ => rfl
theorem HolP_ndH (c : Nat) : HolP (ndH c) := fun r r' z => match r, z with
  | [], z => absurd (show c + 1 = 0 from z) (by omega)
  | _ :: _, _ => rfl
theorem HolP_wk : ∀ (s t : Nat) (τ : TR), HolP τ → HolP (wk fld fty p s τ t).2.1
  | 0, _, _, h => h
  | s + 1, t, τ, h => by
    rw [wk]
    split
    · exact h
    · split
      · exact h
      · exact HolP_wk s _ _ (h.kid _)
theorem pt_self : ∀ (s t : Nat) (τ : TR), (wk fld fty p s τ t).1 = 1 → pt p (wk fld fty p s τ t).2.1 s τ = τ
  | 0, t, τ, _ => rfl
  | s + 1, t, τ, h => by
    obtain ⟨h0, h1, e⟩ := wk_succ h
    rw [e] at h ⊢
    funext r
    match r with
    | [] => rfl
    | k :: r' =>
      show (if k = p / 4 ^ s % 4 - 1 then pt p _ s (tkid τ k) r' else τ (k :: r')) = τ (k :: r')
      by_cases hk : k = p / 4 ^ s % 4 - 1
      · rw [if_pos hk, hk, pt_self s _ _ h]; rfl
      · rw [if_neg hk]
theorem HolP_pt (hσ : HolP σ) : ∀ (s t : Nat) (τ : TR), HolP τ → (wk fld fty p s τ t).1 = 1 → HolP (pt p σ s τ)
  | 0, _, _, _, _ => hσ
  | s + 1, t, τ, h, hw => by
    obtain ⟨h0, h1, e⟩ := wk_succ hw
    rw [e] at hw
    have ih := HolP_pt hσ s _ _ (h.kid _) hw
    intro r r' z
    match r, z with
    | [], z => exact absurd z h0
    | k :: r1, z =>
      by_cases hk : k = p / 4 ^ s % 4 - 1
      · subst hk
        have e1 := pt_kid (p := p) (σ := σ) s τ
        have z' : tkid (pt p σ (s + 1) τ) (p / 4 ^ s % 4 - 1) r1 = 0 := z
        rw [e1] at z'
        have := ih r1 r' z'
        rw [← e1] at this
        exact this
      · have e1 := pt_other (p := p) (σ := σ) s τ hk
        have z' : tkid (pt p σ (s + 1) τ) k r1 = 0 := z
        rw [e1] at z'
        have := h (k :: r1) r' z'
        have q : tkid (pt p σ (s + 1) τ) k (r1 ++ r') = 0 := by rw [e1]; exact this
        exact q
end HOLP
