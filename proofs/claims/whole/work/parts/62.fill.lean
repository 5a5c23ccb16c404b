/-! ===== fillNext of the reference ===== -/
section FILL
variable {l : Launch} {X : Nat × (Nat → Int32)} {d : Nat} {I I' : Nat → Nat → Int32} {J : Nat → Nat → Int64} {mc ms : Nat} {cnt fld fty : Nat → Nat} {t q most m cur : Nat}
/-- the fields that were there -/
def ofl (fld : Nat → Nat) (t cur : Nat) : Nat := if cur = 0 then 0 else fld (4 * t + (cur - 1))
theorem c142_a {c : Nat} (hf : 4 * t + c < 24) (h3 : fld (4 * t + c) ≤ 3) (hq : 0 < fld (4 * t + c) → q < 64) : ∀ (n k : Nat) (I : Nat → Nat → Int32), k + n = fld (4 * t + c) → TV I 27 28 29 cnt fld fty →
    ∃ I', (∀ {mc ms : Nat} {o : mm_O} {σ' : mm_S}, mm_Run l X 142 (d + 1) 73 [.ref 26, .int (nI q), .int (nI t), .int (nI c), .int (nI (fld (4 * t + c)))] [] (mm_Λ, I', J) mc ms o σ' → mm_Run l X 142 (d + 1) 34 [.ref 26, .int (nI q), .int (nI t), .int (nI c), .int (nI k)] [] (mm_Λ, I, J) mc ms o σ') ∧ (∀ r, r ≠ 32 → I' r = I r) ∧ (∀ x, (∀ j, k ≤ j → j < fld (4 * t + c) → x ≠ 4 * q + j + 1) → I' 32 x = I 32 x) ∧ ∀ j, k ≤ j → j < fld (4 * t + c) → I' 32 (4 * q + j + 1) = -1
  | 0, k, I, hk, hT => by
    have e : k = fld (4 * t + c) := by omega
    refine ⟨I, fun rr => b142_34 (fun z => absurd z (nI_pos (by omega))) (fun _ => b142_38 (by rw [jx4]; exact ix_in hf (by omega)) (fun _ => by rw [e]; exact rr) (fun z => absurd ?_ z)), fun _ _ => rfl, fun _ _ => rfl, fun j a b => by omega⟩
    rw [jx4, ix_cl (by omega), (hT.2.1 _ hf).1]
    exact nI_le (by omega) (by omega)
  | n + 1, k, I, hk, hT => by
    have hq6 := hq (by omega)
    obtain ⟨I', st, f1, f2, f3⟩ := c142_a hf h3 hq n (k + 1) (mm_set I 32 (4 * q + k + 1) (-1)) (by omega) (hT.of (mm_set_ne (by decide)) (mm_set_ne (by decide)) (mm_set_ne (by decide)))
    refine ⟨I', fun rr => b142_34 (fun z => absurd z (nI_pos (by omega))) (fun _ => b142_38 (by rw [jx4]; exact ix_in hf (by omega)) (fun z => absurd z ?_) (fun _ => b142_53 (by rw [jx4, nI_1]; exact ix_in (by omega) (by omega)) ?_)), fun r hr => by rw [f1 r hr, mm_set_ne hr], fun x hx => ?_, fun j a b => ?_⟩
    · rw [jx4, ix_cl (by omega), (hT.2.1 _ hf).1]
      exact nI_ge (by omega) (by omega)
    · rw [jx4, nI_1 (4 * q + k), nI_1 k, ix_cl (by omega)]
      exact st rr
    · rw [f2 x fun j a b => hx j (by omega) b]
      have := hx k (Nat.le_refl _) (by omega)
      simp [mm_set, this]
    · by_cases e : j = k
      · subst e
        rw [f2 _ fun i a b => by omega]
        simp [mm_set]
      · exact f3 j (by omega) b
theorem c142_c {x4 : Int32} (hT : TV I 27 28 29 cnt fld fty) (ht : t < 6) (hq : isPb q = true) (hm : most ≤ 4) (h24 : I 26 24 = nI most) {o : mm_O} {σ' : mm_S} : ∀ (r c : Nat), c + r = cnt t →
    mm_Run l X 142 (d + 1) 124 [.ref 26, .int (nI q), .int (nI t), .int (nI ((nx fld t (decide (stp 4 q < most)) r c).getD (cnt t))), .int x4] [] (mm_Λ, I, J) mc ms o σ' →
    mm_Run l X 142 (d + 1) 84 [.ref 26, .int (nI q), .int (nI t), .int (nI c), .int x4] [] (mm_Λ, I, J) mc ms o σ'
  | 0, c, hc, rr => by
    have h4 := (hT.1 t ht).2
    rw [nx, Option.getD_none, ← hc, Nat.add_zero] at rr
    refine b142_84 (ix_in ht (by omega)) (fun _ => rr) (fun z => absurd ?_ z)
    rw [ix_cl (by omega), (hT.1 t ht).1]
    exact nI_le (by omega) (by omega)
  | r + 1, c, hc, rr => by
    have h4 := (hT.1 t ht).2
    have hf : 4 * t + c < 24 := by omega
    have h3 := (hT.2.1 _ hf).2
    obtain ⟨f1, f2, f3, f4, f5⟩ := pz_facts q (isPb_lt hq) hq
    have r120 := @c120 l X d I J 0 0 q (by have := isPb_lt hq; omega)
    rw [f1] at r120
    rw [nx] at rr
    refine b142_84 (ix_in ht (by omega)) (fun z => absurd z ?_) (fun _ => b142_94 (by rw [jx4]; exact ix_in hf (by omega)) (fun z => ?_) (fun z => b142_107 r120 (b142_111 (fun z1 => ?_) (fun z1 => b142_118 ?_))))
    · rw [ix_cl (by omega), (hT.1 t ht).1]
      exact nI_ge (by omega) (by omega)
    · rw [jx4, ix_cl (by omega), (hT.2.1 _ hf).1] at z
      have h0 : fld (4 * t + c) = 0 := Nat.eq_zero_of_not_pos fun w => nI_nle w (by omega) z
      rw [if_pos (Or.inr h0)] at rr
      exact rr
    · rw [h24] at z1
      have hlt : stp 4 q < most := Nat.lt_of_not_le fun w => nI_nlt w (by omega) z1
      rw [if_pos (Or.inl (by simpa using hlt))] at rr
      exact rr
    · rw [h24] at z1
      rw [jx4, ix_cl (by omega), (hT.2.1 _ hf).1] at z
      have hnl : ¬ stp 4 q < most := fun w => z1 (nI_lt w (by omega))
      have hn0 : ¬ fld (4 * t + c) = 0 := fun w => z (by rw [w]; decide)
      rw [if_neg (fun w => w.elim (fun w => hnl (by simpa using w)) hn0)] at rr
      rw [nI_1]
      exact c142_c hT ht hq hm h24 r (c + 1) (by omega) rr
theorem c142_k {c : Nat} (ht : t < 6) (hf : 4 * t + c < 24) (h3 : fld (4 * t + c) ≤ 3) (hq : 0 < fld (4 * t + c) → q < 64) : ∀ (n k : Nat) (I : Nat → Nat → Int32), k + n = fld (4 * t + c) → TV I 27 28 29 cnt fld fty →
    ∃ I', mm_Run l X 142 (d + 1) 168 [.ref 26, .int (nI q), .int (nI t), .int (nI c), .int (nI k)] [] (mm_Λ, I, J) mc ms (.inl (some (.int 1))) (mm_Λ, I', J) ∧ (∀ r, r ≠ 32 → r ≠ 33 → I' r = I r) ∧ (∀ x, (∀ j, k ≤ j → j < fld (4 * t + c) → x ≠ 4 * q + j + 1) → I' 32 x = I 32 x ∧ I' 33 x = I 33 x) ∧ ∀ j, k ≤ j → j < fld (4 * t + c) → I' 32 (4 * q + j + 1) = -2 ∧ I' 33 (4 * q + j + 1) = nI (fty (3 * (4 * t + c) + j))
  | 0, k, I, hk, hT => by
    refine ⟨I, b142_168 (by rw [jx4]; exact ix_in hf (by omega)) (fun _ => b142_225) (fun z => absurd ?_ z), fun _ _ _ => rfl, fun _ _ => ⟨rfl, rfl⟩, fun j a b => by omega⟩
    rw [jx4, ix_cl (by omega), (hT.2.1 _ hf).1]
    exact nI_le (by omega) (by omega)
  | n + 1, k, I, hk, hT => by
    have hq6 := hq (by omega)
    have hT1 : TV (mm_set I 32 (4 * q + k + 1) (-2)) 27 28 29 cnt fld fty := hT.of (mm_set_ne (by decide)) (mm_set_ne (by decide)) (mm_set_ne (by decide))
    obtain ⟨I', rr, f1, f2, f3⟩ := c142_k ht hf h3 hq n (k + 1) (mm_set (mm_set I 32 (4 * q + k + 1) (-2)) 33 (4 * q + k + 1) (nI (fty (3 * (4 * t + c) + k)))) (by omega) (hT1.of (mm_set_ne (by decide)) (mm_set_ne (by decide)) (mm_set_ne (by decide)))
    refine ⟨I', b142_168 (by rw [jx4]; exact ix_in hf (by omega)) (fun z => absurd z ?_) (fun _ => b142_183 (I1 := mm_set I 32 (4 * q + k + 1) (-2)) (J1 := J) (r := nI (fty (3 * (4 * t + c) + k))) (by rw [jx4, nI_1]; exact ix_in (by omega) (by omega)) ?_ ?_), fun r a b => by rw [f1 r a b, mm_set_ne b, mm_set_ne a], fun x hx => ?_, fun j a b => ?_⟩
    · rw [jx4, ix_cl (by omega), (hT.2.1 _ hf).1]
      exact nI_ge (by omega) (by omega)
    · rw [jx4, nI_1, ix_cl (by omega)]
      exact c107 hT1 hf (by omega)
    · rw [jx4, nI_1]
      refine b142_218 (ix_in (by omega) (by omega)) ?_
      rw [ix_cl (by omega), nI_1]
      exact rr
    · obtain ⟨u1, u2⟩ := f2 x fun j a b => hx j (by omega) b
      have := hx k (Nat.le_refl _) (by omega)
      rw [u1, u2]
      simp [mm_set, this]
    · by_cases e : j = k
      · subst e
        obtain ⟨u1, u2⟩ := f2 (4 * q + j + 1) fun i a b => by omega
        rw [u1, u2]
        simp [mm_set]
      · exact f3 j (by omega) b
end FILL
