/-! ===== constructor ===== -/
def ax (a b c : Int32) : Nat → Int32
  | 0 => a
  | 1 => b
  | _ => c
def knw (m : Nat) (a b c : Int32) : Prop := (0 < m → isT a) ∧ (1 < m → isT b) ∧ (2 < m → isT c)
def non (m : Nat) (a b c : Int32) : Prop := (m < 1 → a = -1) ∧ (m < 2 → b = -1) ∧ (m < 3 → c = -1)
def addN (cnt : Nat → Nat) (t : Nat) : Nat → Nat := fun u => if u = t then cnt t + 1 else cnt u
def addF (fld : Nat → Nat) (f m : Nat) : Nat → Nat := fun g => if g = f then m else fld g
def addT (fty : Nat → Nat) (f : Nat) (v : Nat → Nat) : Nat → Nat := fun i => if i = 3 * f then v 0 else if i = 3 * f + 1 then v 1 else if i = 3 * f + 2 then v 2 else fty i
theorem knw_v {m : Nat} {a b c : Int32} (hm : m ≤ 3) (h : knw m a b c) : ∃ v : Nat → Nat, ∀ k, k < m → v k < 6 ∧ ax a b c k = nI (v k) := by
  have key : ∀ k, ∃ u, k < m → u < 6 ∧ ax a b c k = nI u := by
    intro k
    by_cases hk : k < m
    · have : isT (ax a b c k) := by
        match k, hk with
        | 0, hk => exact h.1 hk
        | 1, hk => exact h.2.1 hk
        | 2, hk => exact h.2.2 hk
        | k + 3, hk => omega
      obtain ⟨t, h1, h2⟩ := isT_nI this
      exact ⟨t, fun _ => ⟨h1, h2⟩⟩
    · exact ⟨0, fun q => absurd q hk⟩
  exact ⟨fun k => Classical.choose (key k), fun k => Classical.choose_spec (key k)⟩
theorem TV_add {I I' : Nat → Nat → Int32} {A B C : Nat} {cnt fld fty : Nat → Nat} (hT : TV I A B C cnt fld fty) {t m : Nat} {v : Nat → Nat} {a b c : Int32} (ht : t < 6) (hc : cnt t < 4) (hm : m ≤ 3) (hv : ∀ k, k < m → v k < 6 ∧ ax a b c k = nI (v k))
    (hA : ∀ j, I' A j = if j = t then nI (cnt t + 1) else I A j) (hB : ∀ j, I' B j = if j = 4 * t + cnt t then nI m else I B j)
    (hC : ∀ j, I' C j = if j = 3 * (4 * t + cnt t) + 2 then c else if j = 3 * (4 * t + cnt t) + 1 then b else if j = 3 * (4 * t + cnt t) then a else I C j) :
    TV I' A B C (addN cnt t) (addF fld (4 * t + cnt t) m) (addT fty (4 * t + cnt t) v) := by
  refine ⟨fun u hu => ?_, fun g hg => ?_, fun g hg k hk => ?_⟩
  · rw [hA, addN]
    by_cases h : u = t
    · subst h; rw [if_pos rfl, if_pos rfl]; exact ⟨rfl, by omega⟩
    · rw [if_neg h, if_neg h]; exact hT.1 u hu
  · rw [hB, addF]
    by_cases h : g = 4 * t + cnt t
    · rw [if_pos h, if_pos h]; exact ⟨rfl, hm⟩
    · rw [if_neg h, if_neg h]; exact hT.2.1 g hg
  · rw [hC]
    unfold addF at hk
    unfold addT
    by_cases h : g = 4 * t + cnt t
    · rw [if_pos h] at hk
      subst h
      obtain ⟨h1, h2⟩ := hv k hk
      match k, hk, h1, h2 with
      | 0, _, h1, h2 => rw [if_neg (by omega), if_neg (by omega), if_pos (by omega), if_pos (by omega)]; exact ⟨h2, h1⟩
      | 1, _, h1, h2 => rw [if_neg (by omega), if_pos (by omega), if_neg (by omega), if_pos (by omega)]; exact ⟨h2, h1⟩
      | 2, _, h1, h2 => rw [if_pos (by omega), if_neg (by omega), if_neg (by omega), if_pos (by omega)]; exact ⟨h2, h1⟩
      | k + 3, hk, _, _ => omega
    · rw [if_neg h] at hk
      have h3 := (hT.2.1 g hg).2
      rw [if_neg (by omega), if_neg (by omega), if_neg (by omega), if_neg (by omega), if_neg (by omega), if_neg (by omega)]
      exact hT.2.2 g hg k hk
section CTOR
variable {l : Launch} {X : Nat × (Nat → Int32)} {d : Nat} {I : Nat → Nat → Int32} {J : Nat → Nat → Int64} {mc ms : Nat} {cnt fld fty : Nat → Nat} {a b c : Int32}
theorem c18_26 {m : Nat} (hm : m ≤ 3) (hn : non m a b c) : mm_Run l X 18 (d + 1) 26 [.int (nI m), .int a, .int b, .int c] [] (mm_Λ, I, J) mc ms (.inl none) (mm_Λ, I, J) := by
  have s46 : mm_Run l X 18 (d + 1) 46 [.int (nI m), .int a, .int b, .int c] [] (mm_Λ, I, J) mc ms (.inl none) (mm_Λ, I, J) :=
    b18_46 (fun _ => b18_66) (fun h => b18_51 (fun _ => b18_66) (fun q => absurd (hn.2.2 (Nat.lt_of_not_le fun z => h (nI_le (a := 3) z (by omega)))) q))
  have s36 : mm_Run l X 18 (d + 1) 36 [.int (nI m), .int a, .int b, .int c] [] (mm_Λ, I, J) mc ms (.inl none) (mm_Λ, I, J) :=
    b18_36 (fun _ => s46) (fun h => b18_41 (fun q => absurd (hn.2.1 (Nat.lt_of_not_le fun z => h (nI_le (a := 2) z (by omega)))) q) (fun _ => s46))
  exact b18_26 (fun _ => s36) (fun h => b18_31 (fun q => absurd (hn.1 (Nat.lt_of_not_le fun z => h (nI_le (a := 1) z (by omega)))) q) (fun _ => s36))
theorem c18_26n {m : Nat} (hm : m ≤ 3) (hn : ¬ non m a b c) : mm_Run l X 18 (d + 1) 26 [.int (nI m), .int a, .int b, .int c] [] (mm_Λ, I, J) 1 6 (.inr (mm_ex 1)) (mm_Λ, I, J) := by
  by_cases h1 : m < 1 → a = -1
  · by_cases h2 : m < 2 → b = -1
    · have h3 : ¬ (m < 3 → c = -1) := fun q => hn ⟨h1, h2, q⟩
      have hm3 : m < 3 := Decidable.byContradiction fun q => h3 (fun z => absurd z q)
      have hc : ¬ c = -1 := fun q => h3 fun _ => q
      have s46 : mm_Run l X 18 (d + 1) 46 [.int (nI m), .int a, .int b, .int c] [] (mm_Λ, I, J) 1 6 (.inr (mm_ex 1)) (mm_Λ, I, J) :=
        b18_46 (fun h => absurd h (nI_ge (b := 3) hm3 (by omega))) (fun _ => b18_51 (fun q => absurd q hc) (fun _ => b18_56))
      have s36 : mm_Run l X 18 (d + 1) 36 [.int (nI m), .int a, .int b, .int c] [] (mm_Λ, I, J) 1 6 (.inr (mm_ex 1)) (mm_Λ, I, J) :=
        b18_36 (fun _ => s46) (fun h => b18_41 (fun _ => b18_56) (fun _ => s46))
      exact b18_26 (fun _ => s36) (fun h => b18_31 (fun _ => b18_56) (fun _ => s36))
    · have hm2 : m < 2 := Decidable.byContradiction fun q => h2 (fun z => absurd z q)
      have hb : ¬ b = -1 := fun q => h2 fun _ => q
      have s36 : mm_Run l X 18 (d + 1) 36 [.int (nI m), .int a, .int b, .int c] [] (mm_Λ, I, J) 1 6 (.inr (mm_ex 1)) (mm_Λ, I, J) :=
        b18_36 (fun h => absurd h (nI_ge (b := 2) hm2 (by omega))) (fun h => b18_41 (fun _ => b18_56) (fun q => absurd q (fun z => z hb)))
      exact b18_26 (fun _ => s36) (fun h => b18_31 (fun _ => b18_56) (fun _ => s36))
  · have hm1 : m < 1 := Decidable.byContradiction fun q => h1 (fun z => absurd z q)
    have ha : ¬ a = -1 := fun q => h1 fun _ => q
    exact b18_26 (fun h => absurd h (nI_ge (b := 1) hm1 (by omega))) (fun h => b18_31 (fun _ => b18_56) (fun q => absurd q (fun z => z ha)))
theorem c18_k {m : Nat} {o : mm_O} (hm : m ≤ 3) (hk : knw m a b c) (s26 : mm_Run l X 18 (d + 1) 26 [.int (nI m), .int a, .int b, .int c] [] (mm_Λ, I, J) mc ms o (mm_Λ, I, J)) : mm_Call l X 18 (d + 1) [.int (nI m), .int a, .int b, .int c] (mm_Λ, I, J) mc ms o (mm_Λ, I, J) := by
  have s17 : mm_Run l X 18 (d + 1) 17 [.int (nI m), .int a, .int b, .int c] [] (mm_Λ, I, J) mc ms o (mm_Λ, I, J) :=
    b18_17 (fun _ => s26) (fun h => b18_22 (c17_ok (hk.2.2 (Nat.lt_of_not_le fun z => h (nI_le (b := 2) z (by omega))))) s26)
  have s8 : mm_Run l X 18 (d + 1) 8 [.int (nI m), .int a, .int b, .int c] [] (mm_Λ, I, J) mc ms o (mm_Λ, I, J) :=
    b18_8 (fun _ => s17) (fun h => b18_13 (c17_ok (hk.2.1 (Nat.lt_of_not_le fun z => h (nI_le (b := 1) z (by omega))))) s17)
  exact b18_0 (fun _ => s8) (fun h => b18_4 (c17_ok (hk.1 (Nat.lt_of_not_le fun z => h (by rw [show m = 0 by omega, nI_0]; exact Int32.le_refl 0)))) s8)
theorem c18_n {m : Nat} (hm : m ≤ 3) (hk : ¬ knw m a b c) : mm_Call l X 18 (d + 1) [.int (nI m), .int a, .int b, .int c] (mm_Λ, I, J) 1 6 (.inr (mm_ex 0)) (mm_Λ, I, J) := by
  by_cases h1 : 0 < m → isT a
  · by_cases h2 : 1 < m → isT b
    · have h3 : ¬ (2 < m → isT c) := fun q => hk ⟨h1, h2, q⟩
      have hm3 : 2 < m := Decidable.byContradiction fun q => h3 (fun z => absurd z q)
      have hc : ¬ isT c := fun q => h3 fun _ => q
      have s17 : mm_Run l X 18 (d + 1) 17 [.int (nI m), .int a, .int b, .int c] [] (mm_Λ, I, J) 1 6 (.inr (mm_ex 0)) (mm_Λ, I, J) :=
        b18_17 (fun h => absurd h (nI_ge (a := 2) hm3 (by omega))) (fun h => b18_22t (c17_no hc))
      exact b18_0 (fun h => absurd h (nI_nle (by omega) (by omega))) (fun h => b18_4 (c17_ok (h1 (by omega))) (b18_8 (fun h => absurd h (nI_ge (a := 1) (by omega) (by omega))) (fun h => b18_13 (c17_ok (h2 (by omega))) s17)))
    · have hm2 : 1 < m := Decidable.byContradiction fun q => h2 (fun z => absurd z q)
      have hb : ¬ isT b := fun q => h2 fun _ => q
      exact b18_0 (fun h => absurd h (nI_nle (by omega) (by omega))) (fun h => b18_4 (c17_ok (h1 (by omega))) (b18_8 (fun h => absurd h (nI_ge (a := 1) (by omega) (by omega))) (fun h => b18_13t (c17_no hb))))
  · have hm1 : 0 < m := Decidable.byContradiction fun q => h1 (fun z => absurd z q)
    have ha : ¬ isT a := fun q => h1 fun _ => q
    exact b18_0 (fun h => absurd h (nI_nle (by omega) (by omega))) (fun h => b18_4t (c17_no ha))
/-- Types.add -/
theorem c20 (hT : TV I 2 3 4 cnt fld fty) {t m : Nat} {v : Nat → Nat} (ht : t < 6) (hc : cnt t < 4) (hm : m ≤ 3) (hv : ∀ k, k < m → v k < 6 ∧ ax a b c k = nI (v k)) :
    ∃ I1, mm_Call l X 20 (d + 1) [.ref 1, .int (nI t), .int (nI m), .int a, .int b, .int c] (mm_Λ, I, J) mc ms (.inl (some (.int (nI (cnt t))))) (mm_Λ, I1, J) ∧ (∀ p, p ≠ 2 → p ≠ 3 → p ≠ 4 → I1 p = I p) ∧ TV I1 2 3 4 (addN cnt t) (addF fld (4 * t + cnt t) m) (addT fty (4 * t + cnt t) v) := by
  have hI : I 2 (nI t).toNatClampNeg = nI (cnt t) := by rw [ix_cl (by omega)]; exact (hT.1 t ht).1
  have e3 : nI (4 * t + cnt t) * 3 = nI (3 * (4 * t + cnt t)) := by have := ix3 (4 * t + cnt t) 0; rw [nI_0, Int32.add_zero] at this; exact this
  have r := @b20_14 l X d I J (nI t) (nI m) a b c (nI (cnt t)) (nI (4 * t + cnt t)) mc ms (ix_in (by omega) (by omega)) (by rw [e3]; exact ix_in (by omega) (by omega)) (by rw [e3, nI_1]; exact ix_in (by omega) (by omega))
    (by rw [e3, show (2 : Int32) = nI 2 from rfl, nI_add]; exact ix_in (by omega) (by omega)) (ix_in ht (by omega))
  rw [e3, show (2 : Int32) = nI 2 from rfl, nI_add, nI_1, nI_1, ix_cl (by omega), ix_cl (by omega), ix_cl (by omega), ix_cl (by omega), ix_cl (by omega)] at r
  have hcall : mm_Call l X 21 d [.int (nI t), .int (I 2 (nI t).toNatClampNeg)] (mm_Λ, I, J) 0 0 (.inl (some (.int (nI (4 * t + cnt t))))) (mm_Λ, I, J) := by rw [hI]; exact c21 t (cnt t)
  have r0 := b20_0 (x2 := nI m) (x3 := a) (x4 := b) (x5 := c) (ix_in ht (by omega)) hcall (by rw [hI]; exact r)
  refine ⟨_, r0, fun p h2 h3 h4 => by rw [mm_set_ne h2, mm_set_ne h4, mm_set_ne h4, mm_set_ne h4, mm_set_ne h3], TV_add hT ht hc hm hv ?_ ?_ ?_⟩
  · intro j; simp [mm_set]
  · intro j; simp [mm_set]
  · intro j; simp [mm_set]
end CTOR
