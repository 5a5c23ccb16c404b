/-! ===== what holds between two calls; count and sized ===== -/
theorem mm_at {α : Type} {f : Nat → Nat → α} {p i : Nat} {x : α} : mm_set f p i x p i = x := by simp [mm_set]
/-- the types and the class's tables -/
def TI (cnt fld fty : Nat → Nat) (I : Nat → Nat → Int32) (J : Nat → Nat → Int64) : Prop :=
  TV I 2 3 4 cnt fld fty ∧ TV I 27 28 29 cnt fld fty ∧ (∀ e t, e < 5 → t < 6 → J 6 (5 * t + e) = DT cnt fld fty (e + 1) t ∧ ∀ c, c < cnt t → J 7 (5 * (4 * t + c) + e) = DF cnt fld fty e (4 * t + c)) ∧
  (∀ s t, 1 ≤ s → s ≤ 12 → t < 6 → J 9 (13 * t + s) = lN (SN cnt fld fty s t)) ∧
  (∀ m t c k, m < 12 → t < 6 → c < cnt t → k ≤ fld (4 * t + c) → J 10 (13 * (4 * (4 * t + c) + k) + m) = lN (wW (SN cnt fld fty) fld fty (4 * t + c) (fld (4 * t + c) - k) m))
theorem TI.same {cnt fld fty : Nat → Nat} {I I' : Nat → Nat → Int32} {J J' : Nat → Nat → Int64} (h : TI cnt fld fty I J) (hI : ∀ p, p ∈ [2, 3, 4, 27, 28, 29] → I' p = I p) (hJ : ∀ p, p ∈ [6, 7, 9, 10] → J' p = J p) : TI cnt fld fty I' J' := by
  obtain ⟨⟨a1, a2, a3⟩, ⟨b1, b2, b3⟩, c, d, e⟩ := h
  refine ⟨⟨?_, ?_, ?_⟩, ⟨?_, ?_, ?_⟩, ?_, ?_, ?_⟩
  · rw [hI 2 (by decide)]; exact a1
  · rw [hI 3 (by decide)]; exact a2
  · rw [hI 4 (by decide)]; exact a3
  · rw [hI 27 (by decide)]; exact b1
  · rw [hI 28 (by decide)]; exact b2
  · rw [hI 29 (by decide)]; exact b3
  · rw [hJ 6 (by decide), hJ 7 (by decide)]; exact c
  · rw [hJ 9 (by decide)]; exact d
  · rw [hJ 10 (by decide)]; exact e
section COUNT
variable {l : Launch} {X : Nat × (Nat → Int32)} {d : Nat} {I : Nat → Nat → Int32} {J : Nat → Nat → Int64} {mc ms : Nat} {cnt fld fty : Nat → Nat}
theorem c36_1 {x y : Int32} (h : ¬ isT x) : mm_Call l X 36 (d + 1) [.ref 0, .int x, .int y] (mm_Λ, I, J) 1 6 (.inr (mm_ex 0)) (mm_Λ, I, J) := b36_0t (c17_no h)
theorem c36_2 {x y : Int32} (h : isT x) (h2 : ¬ isD y) : mm_Call l X 36 (d + 1) [.ref 0, .int x, .int y] (mm_Λ, I, J) 1 6 (.inr (mm_ex 1)) (mm_Λ, I, J) := b36_0 (c17_ok h) (b36_4t (c37_no h2))
theorem c36_0 {t e : Nat} (ht : t < 6) (he : e < 5) (h1 : isT (nI t)) (h2 : isD (nI e)) : mm_Call l X 36 (d + 1) [.ref 0, .int (nI t), .int (nI e)] (mm_Λ, I, J) mc ms (.inl (some (.long (J 6 (5 * t + e))))) (mm_Λ, I, J) :=
  b36_0 (c17_ok h1) (b36_4 (c37_ok h2) (b36_8 (c27 ht he) b36_17))
/-- the law's count: its code, and the answer laid by -/
theorem h_count {x y k : Int32} (h : dbar x y k) (hT : TI cnt fld fty I J) : ∃ J1, mm_Call l X 35 (d + 2) [.ref 0, .int x, .int y, .ref 45] (mm_Λ, I, J) 1 6 (.inl (some (.int k))) (mm_Λ, I, J1) ∧ (∀ p, p ≠ 45 → J1 p = J p) ∧ (k = 0 → ∀ t e, t < 6 → e < 5 → x = nI t → y = nI e → J1 45 0 = lN (DN cnt fld fty (e + 1) t)) := by
  rcases h with ⟨h1, rfl⟩ | ⟨h1, h2, rfl⟩ | ⟨h1, h2, rfl⟩
  · exact ⟨J, b35_0c0 (mc := 0) (ms := 0) (c36_1 h1) b35_12, fun _ _ => rfl, fun q => absurd q (by decide)⟩
  · exact ⟨J, b35_0c1 (mc := 0) (ms := 0) (c36_2 h1 h2) b35_16, fun _ _ => rfl, fun q => absurd q (by decide)⟩
  · obtain ⟨t, ht, rfl⟩ := isT_nI h1
    obtain ⟨e, he, rfl⟩ := isD_nI h2
    refine ⟨mm_set J 45 0 (J 6 (5 * t + e)), b35_0 (c36_0 ht he h1 h2) (b35_8 (by unfold vp_in; decide) b35_20), fun p hp => mm_set_ne hp, fun _ t' e' ht' he' hx hy => ?_⟩
    have e1 : t = t' := (nI_eq (by omega) (by omega)).mp hx
    have e2 : e = e' := (nI_eq (by omega) (by omega)).mp hy
    subst e1; subst e2
    rw [mm_at, (hT.2.2.1 e t he ht).1, DT_N]
theorem m_count {x y k : Int32} (h : dbar x y k) (hT : TI cnt fld fty I J) : ∃ b J2, mm_Call l X 103 (d + 3) [.ref 26, .int x, .int y] (mm_Λ, I, J) mc ms (.inl (some (.long b))) (mm_Λ, mm_set I 26 0 k, J2) ∧ (∀ p, p ≠ 30 → J2 p = J p) ∧ (k = 0 → ∃ t e, t < 6 ∧ e < 5 ∧ x = nI t ∧ y = nI e ∧ b = lN (DN cnt fld fty (e + 1) t)) := by
  by_cases hk : k = 0
  · subst hk
    rcases id h with ⟨-, q⟩ | ⟨-, -, q⟩ | ⟨h1, h2, -⟩
    · exact absurd q (by decide)
    · exact absurd q (by decide)
    · obtain ⟨t, ht, rfl⟩ := isT_nI h1
      obtain ⟨e, he, rfl⟩ := isD_nI h2
      have hT' : TV (mm_set I 26 0 0) 27 28 29 cnt fld fty := (hT.same (J' := J) (fun p hp => mm_set_ne (by rintro rfl; simp at hp)) (fun _ _ => rfl)).2.1
      obtain ⟨J2, r, hp⟩ := @c105 l X d (mm_set I 26 0 0) J 0 0 cnt fld fty hT'
      refine ⟨_, J2, b103_0 (c104 h) (b103_6 (fun _ => b103_18 r (b103_22 (by rw [jx6, nI_1]; exact ix_in (by omega) (by omega)))) (fun q => absurd (by rw [mm_at]; decide) q)), hp.1, fun _ => ⟨t, e, ht, he, rfl, rfl, ?_⟩⟩
      rw [jx6, nI_1, ix_cl (by omega)]
      exact hp.2 (e + 1) t (by omega) ht (by omega)
  · refine ⟨0, J, b103_0 (c104 h) (b103_6 (fun q => absurd q ?_) (fun _ => b103_16)), fun _ _ => rfl, fun q => absurd q hk⟩
    rw [mm_at]
    rcases h with ⟨-, rfl⟩ | ⟨-, -, rfl⟩ | ⟨-, -, rfl⟩
    · decide
    · decide
    · exact absurd rfl hk
theorem c53_1 {x y : Int32} (h : ¬ isT x) : mm_Call l X 53 (d + 1) [.ref 0, .int x, .int y] (mm_Λ, I, J) 1 6 (.inr (mm_ex 0)) (mm_Λ, I, J) := b53_0t (c17_no h)
theorem c53_2 {x y : Int32} (h : isT x) (h2 : ¬ isS y) : mm_Call l X 53 (d + 1) [.ref 0, .int x, .int y] (mm_Λ, I, J) 1 6 (.inr (mm_ex 1)) (mm_Λ, I, J) := b53_0 (c17_ok h) (b53_4t (c54_no h2))
theorem c53_0 {t s : Nat} (ht : t < 6) (hs : s < 13) (h1 : isT (nI t)) (h2 : isS (nI s)) : mm_Call l X 53 (d + 1) [.ref 0, .int (nI t), .int (nI s)] (mm_Λ, I, J) mc ms (.inl (some (.long (J 9 (13 * t + s))))) (mm_Λ, I, J) :=
  b53_0 (c17_ok h1) (b53_4 (c54_ok h2) (b53_8 (c33 ht hs) b53_17))
theorem h_sized {x y k : Int32} (h : sbar x y k) (hT : TI cnt fld fty I J) : ∃ J1, mm_Call l X 52 (d + 2) [.ref 0, .int x, .int y, .ref 45] (mm_Λ, I, J) 1 6 (.inl (some (.int k))) (mm_Λ, I, J1) ∧ (∀ p, p ≠ 45 → J1 p = J p) ∧ (k = 0 → ∀ t s, t < 6 → 1 ≤ s → s ≤ 12 → x = nI t → y = nI s → J1 45 0 = lN (SN cnt fld fty s t)) := by
  rcases h with ⟨h1, rfl⟩ | ⟨h1, h2, rfl⟩ | ⟨h1, h2, rfl⟩
  · exact ⟨J, b52_0c0 (mc := 0) (ms := 0) (c53_1 h1) b52_12, fun _ _ => rfl, fun q => absurd q (by decide)⟩
  · exact ⟨J, b52_0c1 (mc := 0) (ms := 0) (c53_2 h1 h2) b52_16, fun _ _ => rfl, fun q => absurd q (by decide)⟩
  · obtain ⟨t, ht, rfl⟩ := isT_nI h1
    obtain ⟨s, hs1, hs2, rfl⟩ := isS_nI h2
    refine ⟨mm_set J 45 0 (J 9 (13 * t + s)), b52_0 (c53_0 ht (by omega) h1 h2) (b52_8 (by unfold vp_in; decide) b52_20), fun p hp => mm_set_ne hp, fun _ t' s' ht' hs1' hs2' hx hy => ?_⟩
    have e1 : t = t' := (nI_eq (by omega) (by omega)).mp hx
    have e2 : s = s' := (nI_eq (by omega) (by omega)).mp hy
    subst e1; subst e2
    rw [mm_at, hT.2.2.2.1 s t hs1 hs2 ht]
theorem m_sized {x y k : Int32} (h : sbar x y k) (hT : TI cnt fld fty I J) : ∃ b J2, mm_Call l X 110 (d + 4) [.ref 26, .int x, .int y] (mm_Λ, I, J) mc ms (.inl (some (.long b))) (mm_Λ, mm_set I 26 0 k, J2) ∧ (∀ p, p ≠ 31 → J2 p = J p) ∧ (k = 0 → ∃ t s, t < 6 ∧ 1 ≤ s ∧ s ≤ 12 ∧ x = nI t ∧ y = nI s ∧ b = lN (SN cnt fld fty s t)) := by
  by_cases hk : k = 0
  · subst hk
    rcases id h with ⟨-, q⟩ | ⟨-, -, q⟩ | ⟨h1, h2, -⟩
    · exact absurd q (by decide)
    · exact absurd q (by decide)
    · obtain ⟨t, ht, rfl⟩ := isT_nI h1
      obtain ⟨s, hs1, hs2, rfl⟩ := isS_nI h2
      have hT' : TV (mm_set I 26 0 0) 27 28 29 cnt fld fty := (hT.same (J' := J) (fun p hp => mm_set_ne (by rintro rfl; simp at hp)) (fun _ _ => rfl)).2.1
      obtain ⟨J2, r, hp⟩ := @c112 l X d (mm_set I 26 0 0) J 0 0 cnt fld fty hT'
      refine ⟨_, J2, b110_0 (c111 h) (b110_6 (fun _ => b110_18 r (b110_22 (by rw [jx13]; exact ix_in (by omega) (by omega)))) (fun q => absurd (by rw [mm_at]; decide) q)), hp.1, fun _ => ⟨t, s, ht, hs1, hs2, rfl, rfl, ?_⟩⟩
      rw [jx13, ix_cl (by omega)]
      exact hp.2 s t hs1 hs2 ht (by omega)
  · refine ⟨0, J, b110_0 (c111 h) (b110_6 (fun q => absurd q ?_) (fun _ => b110_16)), fun _ _ => rfl, fun q => absurd q hk⟩
    rw [mm_at]
    rcases h with ⟨-, rfl⟩ | ⟨-, -, rfl⟩ | ⟨-, -, rfl⟩
    · decide
    · decide
    · exact absurd rfl hk
end COUNT
