/-! ===== what is refused ===== -/
def isT (x : Int32) : Prop := ¬ x < 0 ∧ x < 6
def isD (x : Int32) : Prop := ¬ x < 0 ∧ x ≤ 4
def isS (x : Int32) : Prop := ¬ x < 1 ∧ x ≤ 12
theorem isT_nI {x : Int32} (h : isT x) : ∃ t, t < 6 ∧ x = nI t := by
  obtain ⟨t, h1, rfl⟩ := nI_of h.1
  refine ⟨t, Nat.lt_of_not_le fun q => ?_, rfl⟩
  exact nI_nlt (a := t) (b := 6) q h1 h.2
theorem isD_nI {x : Int32} (h : isD x) : ∃ t, t < 5 ∧ x = nI t := by
  obtain ⟨t, h1, rfl⟩ := nI_of h.1
  refine ⟨t, Nat.lt_of_not_le fun q => ?_, rfl⟩
  exact nI_ge (a := 4) (b := t) (by omega) h1 h.2
theorem isS_nI {x : Int32} (h : isS x) : ∃ t, 1 ≤ t ∧ t ≤ 12 ∧ x = nI t := by
  have h0 : ¬ x < 0 := fun q => h.1 (Int32.lt_trans q (by decide))
  obtain ⟨t, h1, rfl⟩ := nI_of h0
  refine ⟨t, Nat.lt_of_not_le fun q => h.1 ?_, Nat.le_of_not_lt fun q => ?_, rfl⟩
  · exact nI_lt (a := t) (b := 1) (by omega) (by omega)
  · exact nI_ge (a := 12) (b := t) q h1 h.2
theorem lgclt (x y : Int64) : lg_cmp x y < 0 ↔ x < y := by
  unfold lg_cmp
  by_cases h1 : x > y
  · rw [if_pos h1]
    exact ⟨fun h => absurd h (by decide), fun h => absurd (Int64.le_of_lt h) (Int64.not_le.mpr h1)⟩
  · rw [if_neg h1]
    by_cases h3 : x = y
    · rw [if_pos h3]; exact ⟨fun h => absurd h (by decide), fun h => absurd h (by rw [h3]; exact fun q => Int64.lt_irrefl q)⟩
    · rw [if_neg h3]; exact ⟨fun _ => Int64.lt_of_le_of_ne (Int64.not_lt.mp h1) h3, fun _ => by decide⟩
section BARS
variable {l : Launch} {X : Nat × (Nat → Int32)} {d : Nat} {I : Nat → Nat → Int32} {J : Nat → Nat → Int64} {mc ms : Nat}
theorem c17_ok {x : Int32} (h : isT x) : mm_Call l X 17 d [.int x] (mm_Λ, I, J) mc ms (.inl none) (mm_Λ, I, J) :=
  b17_0 (fun q => absurd q h.1) (fun _ => b17_4 (fun _ => b17_20) (fun q => absurd h.2 q))
theorem c17_no {x : Int32} (h : ¬ isT x) : mm_Call l X 17 d [.int x] (mm_Λ, I, J) 1 6 (.inr (mm_ex 0)) (mm_Λ, I, J) :=
  b17_0 (fun _ => b17_10) (fun q => b17_4 (fun q1 => absurd ⟨q, q1⟩ h) (fun _ => b17_10))
theorem c37_ok {x : Int32} (h : isD x) : mm_Call l X 37 d [.int x] (mm_Λ, I, J) mc ms (.inl none) (mm_Λ, I, J) :=
  b37_0 (fun q => absurd q h.1) (fun _ => b37_4 (fun _ => b37_19) (fun q => absurd h.2 q))
theorem c37_no {x : Int32} (h : ¬ isD x) : mm_Call l X 37 d [.int x] (mm_Λ, I, J) 1 6 (.inr (mm_ex 1)) (mm_Λ, I, J) :=
  b37_0 (fun _ => b37_9) (fun q => b37_4 (fun q1 => absurd ⟨q, q1⟩ h) (fun _ => b37_9))
theorem c54_ok {x : Int32} (h : isS x) : mm_Call l X 54 d [.int x] (mm_Λ, I, J) mc ms (.inl none) (mm_Λ, I, J) :=
  b54_0 (fun q => absurd q h.1) (fun _ => b54_5 (fun _ => b54_21) (fun q => absurd h.2 q))
theorem c54_no {x : Int32} (h : ¬ isS x) : mm_Call l X 54 d [.int x] (mm_Λ, I, J) 1 6 (.inr (mm_ex 1)) (mm_Λ, I, J) :=
  b54_0 (fun _ => b54_11) (fun q => b54_5 (fun q1 => absurd ⟨q, q1⟩ h) (fun _ => b54_11))
theorem c40_ok {n v : Int64} (h : ¬ n < 0 ∧ n < v) : mm_Call l X 40 d [.long n, .long v] (mm_Λ, I, J) mc ms (.inl none) (mm_Λ, I, J) :=
  b40_0 (fun q => absurd ((lgclt _ _).mp q) h.1) (fun _ => b40_6 (fun _ => b40_22) (fun q => absurd ((lgclt _ _).mpr h.2) q))
theorem c40_no {n v : Int64} (h : ¬ (¬ n < 0 ∧ n < v)) : mm_Call l X 40 d [.long n, .long v] (mm_Λ, I, J) 1 6 (.inr (mm_ex 2)) (mm_Λ, I, J) :=
  b40_0 (fun _ => b40_12) (fun q => b40_6 (fun q1 => absurd ⟨fun z => q ((lgclt _ _).mpr z), (lgclt _ _).mp q1⟩ h) (fun _ => b40_12))
/-! the reference's bars -/
theorem c102_ok {x : Int32} (h : isT x) : mm_Call l X 102 d [.int x] (mm_Λ, I, J) mc ms (.inl (some (.int 1))) (mm_Λ, I, J) := by
  obtain ⟨t, h1, rfl⟩ := isT_nI h
  exact b102_0 (fun q => absurd q h.1) (fun _ => b102_4 (fun q => absurd q (nI_nlt (a := 5) (by omega) (by omega))) (fun _ => b102_9 (b102_14 (Or.inr rfl))))
theorem c102_no {x : Int32} (h : ¬ isT x) : mm_Call l X 102 d [.int x] (mm_Λ, I, J) mc ms (.inl (some (.int 0))) (mm_Λ, I, J) := by
  refine b102_0 (fun q => b102_13 (b102_14 (Or.inl rfl))) (fun q => b102_4 (fun _ => b102_13 (b102_14 (Or.inl rfl))) (fun q1 => absurd ⟨q, ?_⟩ h))
  obtain ⟨t, h1, rfl⟩ := nI_of q
  exact nI_lt (b := 6) (Nat.lt_of_not_le fun z => q1 (nI_lt (a := 5) (by omega) h1)) (by omega)
/-- depthBar -/
def dbar (t e : Int32) (k : Int32) : Prop := (¬ isT t ∧ k = 1) ∨ (isT t ∧ ¬ isD e ∧ k = 2) ∨ (isT t ∧ isD e ∧ k = 0)
def sbar (t e : Int32) (k : Int32) : Prop := (¬ isT t ∧ k = 1) ∨ (isT t ∧ ¬ isS e ∧ k = 2) ∨ (isT t ∧ isS e ∧ k = 0)
theorem dbar_ex (t e : Int32) : ∃ k, dbar t e k := by
  by_cases h : isT t
  · by_cases h1 : isD e
    · exact ⟨0, Or.inr (Or.inr ⟨h, h1, rfl⟩)⟩
    · exact ⟨2, Or.inr (Or.inl ⟨h, h1, rfl⟩)⟩
  · exact ⟨1, Or.inl ⟨h, rfl⟩⟩
theorem sbar_ex (t e : Int32) : ∃ k, sbar t e k := by
  by_cases h : isT t
  · by_cases h1 : isS e
    · exact ⟨0, Or.inr (Or.inr ⟨h, h1, rfl⟩)⟩
    · exact ⟨2, Or.inr (Or.inl ⟨h, h1, rfl⟩)⟩
  · exact ⟨1, Or.inl ⟨h, rfl⟩⟩
theorem c104 {t e k : Int32} (h : dbar t e k) : mm_Call l X 104 (d + 1) [.int t, .int e] (mm_Λ, I, J) mc ms (.inl (some (.int k))) (mm_Λ, I, J) := by
  rcases h with ⟨h1, rfl⟩ | ⟨h1, h2, rfl⟩ | ⟨h1, h2, rfl⟩
  · exact b104_0 (c102_no h1) (b104_4 (fun q => absurd rfl q) (fun _ => b104_7 b104_25))
  · exact b104_0 (c102_ok h1) (b104_4 (fun _ => b104_11 (fun _ => b104_20 b104_25) (fun q => b104_15 (fun q1 => absurd ⟨q, q1⟩ h2) (fun _ => b104_20 b104_25))) (fun q => absurd (by decide) q))
  · exact b104_0 (c102_ok h1) (b104_4 (fun _ => b104_11 (fun q => absurd q h2.1) (fun _ => b104_15 (fun _ => b104_24 b104_25) (fun q => absurd h2.2 q))) (fun q => absurd (by decide) q))
theorem c111 {t e k : Int32} (h : sbar t e k) : mm_Call l X 111 (d + 1) [.int t, .int e] (mm_Λ, I, J) mc ms (.inl (some (.int k))) (mm_Λ, I, J) := by
  rcases h with ⟨h1, rfl⟩ | ⟨h1, h2, rfl⟩ | ⟨h1, h2, rfl⟩
  · exact b111_0 (c102_no h1) (b111_4 (fun q => absurd rfl q) (fun _ => b111_7 b111_27))
  · exact b111_0 (c102_ok h1) (b111_4 (fun _ => b111_11 (fun _ => b111_22 b111_27) (fun q => b111_16 (fun q1 => absurd ⟨q, q1⟩ h2) (fun _ => b111_22 b111_27))) (fun q => absurd (by decide) q))
  · exact b111_0 (c102_ok h1) (b111_4 (fun _ => b111_11 (fun q => absurd q h2.1) (fun _ => b111_16 (fun _ => b111_26 b111_27) (fun q => absurd h2.2 q))) (fun q => absurd (by decide) q))
end BARS
