/-! ===== the law's loop ===== -/
theorem and15 (v : Int32) : ∃ j, j < 16 ∧ v &&& 15 = nI j := by
  refine ⟨(v.toBitVec &&& 15#32).toNat, ?_, ?_⟩
  · rw [BitVec.toNat_and]
    exact Nat.lt_of_le_of_lt Nat.and_le_right (by decide)
  · apply Int32.toBitVec_inj.mp
    rw [Int32.toBitVec_and]
    show v.toBitVec &&& 15#32 = (Int32.ofNat (v.toBitVec &&& 15#32).toNat).toBitVec
    rw [Int32.toBitVec_ofNat']
    rw [BitVec.ofNat_toNat, BitVec.setWidth_eq]
def mm_Z : Nat → Nat → Int32 := fun _ _ => 0
def mm_Y : Nat → Nat → Int64 := fun _ _ => 0
/-- a new object and a new reference -/
theorem LI0 : LI mm_Z mm_Y := by
  have hD : ∀ e t, DN (fun _ => 0) (fun _ => 0) (fun _ => 0) (e + 1) t = 0 := fun e t => by rw [DN_succ]; rfl
  have hS : ∀ s t, SN (fun _ => 0) (fun _ => 0) (fun _ => 0) s t = 0 := fun s t => by
    cases s with
    | zero => rfl
    | succ s => rw [SN_succ]; rfl
  have hV : ∀ a b c, TV mm_Z a b c (fun _ => 0) (fun _ => 0) (fun _ => 0) := fun a b c => ⟨fun t _ => ⟨nI_0.symm, Nat.zero_le _⟩, fun f _ => ⟨nI_0.symm, Nat.zero_le _⟩, fun f _ k hk => absurd hk (Nat.not_lt_zero _)⟩
  refine ⟨fun _ => 0, fun _ => 0, fun _ => 0, 0, 0, fun _ => 0, fun _ => 0, fun _ => 0, fun _ => 0, [], ⟨hV 2 3 4, hV 27 28 29, fun e t _ _ => ⟨?_, fun c hc => absurd hc (Nat.not_lt_zero _)⟩, fun s t _ _ _ => ?_, fun m t c k _ _ hc => absurd hc (Nat.not_lt_zero _)⟩, ⟨nI_0.symm, fun j x hx => by simp at hx⟩, ⟨nI_0.symm, fun j x hx => by simp at hx⟩, by simp, ⟨nI_0.symm, nI_0.symm, fun i hi => by omega, fun i hi => by omega⟩, ⟨nI_0.symm, nI_0.symm, fun i hi => by omega, fun i hi => by omega⟩, ⟨by omega, by omega, fun i hi => by omega, fun i hi => by omega⟩, rfl, rfl⟩
  · rw [DT_N, hD]; rfl
  · rw [hS]; rfl
section LOOP
variable {l : Launch} {X : Nat × (Nat → Int32)} {d : Nat}
theorem law_exit {i mc ms : Nat} {I : Nat → Nat → Int32} {J : Nat → Nat → Int64} (hX : X.1 ≤ 100000) (hi : i ≤ 100000) (h : X.1 < i + 6) : mm_Run l X 145 (d + 31) 23 [.retAddr 0, .ref 0, .ref 26, .ref 45, .int (nI i), .null, .null, .null] [] (mm_Λ, I, J) mc ms (.inl (some (.int 1))) (mm_Λ, I, J) := by
  refine b145_23 (fun _ => b145_978) (fun z => absurd ?_ z)
  by_cases h6 : 6 ≤ X.1
  · have e : Int32.ofNat X.1 - 6 = nI (X.1 - 6) := nI_sub (a := X.1) (b := 6) h6
    rw [e]
    exact nI_lt (by omega) (by omega)
  · have h0 : ¬ nI i < 0 := nI_pos (by omega)
    have h1 : Int32.ofNat X.1 - 6 < 0 := by
      generalize X.1 = n at h6
      rcases (show n = 0 ∨ n = 1 ∨ n = 2 ∨ n = 3 ∨ n = 4 ∨ n = 5 by omega) with h | h | h | h | h | h <;> (rw [h]; decide)
    exact Int32.lt_of_lt_of_le h1 (Int32.not_lt.mp h0)
theorem law_loop (hX : X.1 ≤ 100000) : ∀ (m i : Nat) (I : Nat → Nat → Int32) (J : Nat → Nat → Int64), X.1 < i + 6 * m + 6 → i ≤ 100000 → LI I J →
    ∃ σ', mm_Run l X 145 (d + 31) 23 [.retAddr 0, .ref 0, .ref 26, .ref 45, .int (nI i), .null, .null, .null] [] (mm_Λ, I, J) m (6 * m) (.inl (some (.int 1))) σ'
  | 0, i, I, J, hm, hi, hL => ⟨_, law_exit hX hi (by omega)⟩
  | m + 1, i, I, J, hm, hi, hL => by
    by_cases hx : X.1 < i + 6
    · exact ⟨_, law_exit hX hi hx⟩
    · have vk : ∀ k, k < 6 → vp_in (nI i + nI k) X.1 := fun k hk => by
        rw [nI_add]
        exact nI_in (by omega) (by omega)
      have v1 : vp_in (nI i + 1) X.1 := vk 1 (by omega)
      have v2 : vp_in (nI i + 2) X.1 := vk 2 (by omega)
      have v3 : vp_in (nI i + 3) X.1 := vk 3 (by omega)
      have v4 : vp_in (nI i + 4) X.1 := vk 4 (by omega)
      have v5 : vp_in (nI i + 5) X.1 := vk 5 (by omega)
      have key : ∀ {I' : Nat → Nat → Int32} {J' : Nat → Nat → Int64}, LI I' J' → ∃ σ', mm_Run l X 145 (d + 31) 972 [.retAddr 0, .ref 0, .ref 26, .ref 45, .int (nI i), .null, .null, .null] [] (mm_Λ, I', J') m (6 * m) (.inl (some (.int 1))) σ' := fun {I' J'} hL' => by
        obtain ⟨σ', rr⟩ := law_loop hX m (i + 6) I' J' (by omega) (by omega) hL'
        refine ⟨σ', b145_972 ?_⟩
        rw [show (6 : Int32) = nI 6 from rfl, nI_add]
        exact rr
      have key1 : ∀ {I' : Nat → Nat → Int32} {J' : Nat → Nat → Int64} {pc : Nat}, LI I' J' → (∀ {mc ms : Nat} {o : mm_O} {σ' : mm_S}, mm_Run l X 145 (d + 31) 972 [.retAddr 0, .ref 0, .ref 26, .ref 45, .int (nI i), .null, .null, .null] [] (mm_Λ, I', J') mc ms o σ' → mm_Run l X 145 (d + 31) pc [.retAddr 0, .ref 0, .ref 26, .ref 45, .int (nI i), .null, .null, .null] [] (mm_Λ, I, J) (1 + mc) (6 + ms) o σ') → ∃ σ', mm_Run l X 145 (d + 31) pc [.retAddr 0, .ref 0, .ref 26, .ref 45, .int (nI i), .null, .null, .null] [] (mm_Λ, I, J) (m + 1) (6 * (m + 1)) (.inl (some (.int 1))) σ' := fun hL' st => by
        obtain ⟨σ', rr⟩ := key hL'
        exact ⟨σ', mm_widen (by omega) (by omega) (st rr)⟩
      have key0 : ∀ {I' : Nat → Nat → Int32} {J' : Nat → Nat → Int64} {pc : Nat}, LI I' J' → (∀ {mc ms : Nat} {o : mm_O} {σ' : mm_S}, mm_Run l X 145 (d + 31) 972 [.retAddr 0, .ref 0, .ref 26, .ref 45, .int (nI i), .null, .null, .null] [] (mm_Λ, I', J') mc ms o σ' → mm_Run l X 145 (d + 31) pc [.retAddr 0, .ref 0, .ref 26, .ref 45, .int (nI i), .null, .null, .null] [] (mm_Λ, I, J) mc ms o σ') → ∃ σ', mm_Run l X 145 (d + 31) pc [.retAddr 0, .ref 0, .ref 26, .ref 45, .int (nI i), .null, .null, .null] [] (mm_Λ, I, J) (m + 1) (6 * (m + 1)) (.inl (some (.int 1))) σ' := fun hL' st => by
        obtain ⟨σ', rr⟩ := key hL'
        exact ⟨σ', mm_widen (by omega) (by omega) (st rr)⟩
      have sw : ∃ σ', mm_Run l X 145 (d + 31) 40 [.retAddr 0, .ref 0, .ref 26, .ref 45, .int (nI i), .null, .null, .null] [.int (X.2 (nI i).toNatClampNeg &&& 15)] (mm_Λ, I, J) (m + 1) (6 * (m + 1)) (.inl (some (.int 1))) σ' := by
        obtain ⟨j, hj, e⟩ := and15 (X.2 (nI i).toNatClampNeg)
        rw [e]
        match j, hj with
        | 0, _ => obtain ⟨I', J', a, b⟩ := L0 (l := l) (X := X) (d := d) hL v1 v2 v3 v4 v5; obtain ⟨σ', rr⟩ := key1 a b; exact ⟨σ', mm_tableIn (off := 72) (tgt := 112) d145_40 (by decide) (by decide) (by decide) (by decide) rr⟩
        | 1, _ => obtain ⟨I', J', a, b⟩ := L1 (l := l) (X := X) (d := d) hL v1 v2; obtain ⟨σ', rr⟩ := key1 a b; exact ⟨σ', mm_tableIn (off := 176) (tgt := 216) d145_40 (by decide) (by decide) (by decide) (by decide) rr⟩
        | 2, _ => obtain ⟨I', J', a, b⟩ := L2 (l := l) (X := X) (d := d) hL v1 v2 v3 v4; obtain ⟨σ', rr⟩ := key1 a b; exact ⟨σ', mm_tableIn (off := 243) (tgt := 283) d145_40 (by decide) (by decide) (by decide) (by decide) rr⟩
        | 3, _ => obtain ⟨I', J', a, b⟩ := L3 (l := l) (X := X) (d := d) hL v1 v2; obtain ⟨σ', rr⟩ := key1 a b; exact ⟨σ', mm_tableIn (off := 355) (tgt := 395) d145_40 (by decide) (by decide) (by decide) (by decide) rr⟩
        | 4, _ => obtain ⟨I', J', a, b⟩ := L4 (l := l) (X := X) (d := d) hL v1 v2 v3 v4; obtain ⟨σ', rr⟩ := key1 a b; exact ⟨σ', mm_tableIn (off := 422) (tgt := 462) d145_40 (by decide) (by decide) (by decide) (by decide) rr⟩
        | 5, _ => obtain ⟨I', J', a, b⟩ := L5 (l := l) (X := X) (d := d) hL v1; obtain ⟨σ', rr⟩ := key0 a b; exact ⟨σ', mm_tableIn (off := 534) (tgt := 574) d145_40 (by decide) (by decide) (by decide) (by decide) rr⟩
        | 6, _ => obtain ⟨I', J', a, b⟩ := L6 (l := l) (X := X) (d := d) hL v1 v2; obtain ⟨σ', rr⟩ := key1 a b; exact ⟨σ', mm_tableIn (off := 559) (tgt := 599) d145_40 (by decide) (by decide) (by decide) (by decide) rr⟩
        | 7, _ => obtain ⟨I', J', a, b⟩ := L7 (l := l) (X := X) (d := d) hL v1 v2; obtain ⟨σ', rr⟩ := key1 a b; exact ⟨σ', mm_tableIn (off := 627) (tgt := 667) d145_40 (by decide) (by decide) (by decide) (by decide) rr⟩
        | 8, _ => obtain ⟨I', J', a, b⟩ := L8 (l := l) (X := X) (d := d) hL v1; obtain ⟨σ', rr⟩ := key1 a b; exact ⟨σ', mm_tableIn (off := 695) (tgt := 735) d145_40 (by decide) (by decide) (by decide) (by decide) rr⟩
        | 9, _ => obtain ⟨I', J', a, b⟩ := L9 (l := l) (X := X) (d := d) (i := i) hL; obtain ⟨σ', rr⟩ := key0 a b; exact ⟨σ', mm_tableIn (off := 751) (tgt := 791) d145_40 (by decide) (by decide) (by decide) (by decide) rr⟩
        | 10, _ => obtain ⟨I', J', a, b⟩ := L10 (l := l) (X := X) (d := d) hL v1 v2; obtain ⟨σ', rr⟩ := key1 a b; exact ⟨σ', mm_tableIn (off := 762) (tgt := 802) d145_40 (by decide) (by decide) (by decide) (by decide) rr⟩
        | 11, _ => obtain ⟨I', J', a, b⟩ := L11 (l := l) (X := X) (d := d) hL v1 v2; obtain ⟨σ', rr⟩ := key1 a b; exact ⟨σ', mm_tableIn (off := 830) (tgt := 870) d145_40 (by decide) (by decide) (by decide) (by decide) rr⟩
        | 12, _ => obtain ⟨I', J', a, b⟩ := L12 (l := l) (X := X) (d := d) (i := i) hL; obtain ⟨σ', rr⟩ := key0 a b; exact ⟨σ', mm_tableIn (off := 905) (tgt := 945) d145_40 (by decide) (by decide) (by decide) (by decide) rr⟩
        | 13, _ => obtain ⟨I', J', a, b⟩ := L13 (l := l) (X := X) (d := d) (i := i) hL; obtain ⟨σ', rr⟩ := key0 a b; exact ⟨σ', mm_tableIn (off := 918) (tgt := 958) d145_40 (by decide) (by decide) (by decide) (by decide) rr⟩
        | 14, _ => obtain ⟨σ', rr⟩ := key0 hL (fun r => r); exact ⟨σ', mm_tableOut (tgt := 972) d145_40 (by decide) (by decide) rr⟩
        | 15, _ => obtain ⟨σ', rr⟩ := key0 hL (fun r => r); exact ⟨σ', mm_tableOut (tgt := 972) d145_40 (by decide) (by decide) rr⟩
        | j + 16, hj => omega
      obtain ⟨σ', rr⟩ := sw
      refine ⟨σ', b145_23 (fun z => absurd z ?_) (fun _ => b145_33 (nI_in (by omega) (by omega)) rr)⟩
      have e : Int32.ofNat X.1 - 6 = nI (X.1 - 6) := nI_sub (a := X.1) (b := 6) (by omega)
      rw [e]
      exact nI_nlt (by omega) (by omega)
end LOOP
