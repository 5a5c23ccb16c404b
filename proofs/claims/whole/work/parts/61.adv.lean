/-! ===== the next constructor at a hole: Value.advance ===== -/
def hol : TR := fun _ => 0
def nx (fld : Nat → Nat) (t : Nat) (may : Bool) : Nat → Nat → Option Nat
  | 0, _ => none
  | r + 1, c => if may = true ∨ fld (4 * t + c) = 0 then some c else nx fld t may r (c + 1)
def nxT (o : Option Nat) : TR := match o with
  | none => hol
  | some c => ndH c
def nxA (o : Option Nat) : Int32 := match o with
  | none => 0
  | some _ => 1
section ADV
variable {l : Launch} {X : Nat × (Nat → Int32)} {d : Nat} {I I' : Nat → Nat → Int32} {J J' : Nat → Nat → Int64} {mc ms : Nat} {b : Bool} {cnt fld fty : Nat → Nat} {T A N : Nat → Int32} {t n q most : Nat}
theorem HT.isH (h1 : T q = nI t) (h2 : A q = -2) (h3 : b = true → N q = 0) : HT b cnt fld fty T A N n hol t q :=
  HT.mk ⟨h1, fun _ => ⟨h2, h3⟩, fun c hc => absurd (show 0 = c + 1 from hc) (by omega)⟩ (fun c hc => absurd (show 0 = c + 1 from hc) (by omega)) (fun c hc => absurd (show 0 = c + 1 from hc) (by omega))
theorem HT.isN {c : Nat} (hc : c < cnt t) (h0 : 0 < fld (4 * t + c) → 0 < n) (h1 : T q = nI t) (h2 : A q = nI c) (h3 : b = true → N q = nI (fld (4 * t + c)))
    (hk : ∀ k, k < fld (4 * t + c) → T (4 * q + k + 1) = nI (fty (3 * (4 * t + c) + k)) ∧ A (4 * q + k + 1) = -2 ∧ (b = true → N (4 * q + k + 1) = 0)) : HT b cnt fld fty T A N n (ndH c) t q := by
  have e : ∀ c', ndH c [] = c' + 1 → c' = c := fun c' h => by
    have : c + 1 = c' + 1 := h
    omega
  refine HT.mk ⟨h1, fun z => absurd (show c + 1 = 0 from z) (by omega), fun c' h => ?_⟩ (fun c' h => ?_) (fun c' h k hk' => ?_)
  · rw [e c' h]; exact ⟨hc, h2, h3⟩
  · rw [e c' h]; exact h0
  · rw [e c' h] at hk' ⊢
    obtain ⟨g1, g2, g3⟩ := hk k hk'
    exact HT.isH g1 g2 g3
theorem nx_ok {may : Bool} : ∀ (r c : Nat) {i : Nat}, nx fld t may r c = some i → c ≤ i ∧ i < c + r ∧ (may = true ∨ fld (4 * t + i) = 0)
  | 0, c, i, h => by simp [nx] at h
  | r + 1, c, i, h => by
    rw [nx] at h
    by_cases e : may = true ∨ fld (4 * t + c) = 0
    · rw [if_pos e] at h
      have := Option.some.inj h
      subst this
      exact ⟨Nat.le_refl _, by omega, e⟩
    · rw [if_neg e] at h
      obtain ⟨a1, a2, a3⟩ := nx_ok r (c + 1) h
      exact ⟨by omega, by omega, a3⟩
theorem c96_loop {x5 : Int32} (hT : TV I 2 3 4 cnt fld fty) (ht : t < 6) (hq : isPb q = true) (hm : most ≤ 4) (h14 : I 14 q = nI t) : ∀ (r c : Nat), c + r = cnt t →
    ∃ I', mm_Run l X 96 (d + 2) 51 [.ref 13, .int (nI q), .int (nI most), .int (nI t), .int (if stp 4 q < most then 1 else 0), .int x5, .int (nI c)] [] (mm_Λ, I, J) mc ms (.inl (some (.int (nxA (nx fld t (decide (stp 4 q < most)) r c))))) (mm_Λ, I', J) ∧ FrC q I I' ∧ HT true cnt fld fty (I' 14) (I' 15) (I' 16) (most - stp 4 q) (nxT (nx fld t (decide (stp 4 q < most)) r c)) t q
  | 0, c, hc => by
    have hq6 := isPb_lt hq
    have h4 := (hT.1 t ht).2
    refine ⟨mm_set (mm_set I 15 q (-2)) 16 q 0, b96_51 (c19T hT ht) (b96_61 (fun _ => b96_100 (c46 hq6) b96_105) (fun z => absurd (nI_le (by omega) (by omega)) z)), ⟨fun r a b c => by rw [mm_set_ne c, mm_set_ne b], fun r x hx => ?_⟩, HT.isH (by simp [mm_set, h14]) (by simp [mm_set]) (fun _ => by simp [mm_set])⟩
    have hxq : x ≠ q := fun e => hx (by rw [e]; exact bel_self q)
    simp [mm_set, hxq]
  | r + 1, c, hc => by
    have hq6 := isPb_lt hq
    obtain ⟨f1, f2, f3, f4, f5⟩ := pz_facts q hq6 hq
    have h4 := (hT.1 t ht).2
    have hf : 4 * t + c < 24 := by omega
    have h3 := (hT.2.1 _ hf).2
    rw [nx]
    by_cases e : decide (stp 4 q < most) = true ∨ fld (4 * t + c) = 0
    · rw [if_pos e]
      have hpos : 0 < fld (4 * t + c) → stp 4 q < most := fun z => by
        rcases e with e | e
        · simpa using e
        · omega
      obtain ⟨I', r44, hF, a1, a2, a3, a4⟩ := @c44 l X d I J 0 0 cnt fld fty q t c hT ht (by omega) hq6 (fun z => Nat.lt_of_lt_of_le f3 (Nat.pow_le_pow_right (n := 4) (by decide) (show stp 4 q ≤ 3 by have := hpos z; omega))) h14
      refine ⟨I', b96_51 (c19T hT ht) (b96_61 (fun z => absurd z (nI_ge (by omega) (by omega))) (fun _ => b96_64 (fun _ => b96_85 r44 b96_92) (fun z => ?_))), hF, HT.isN (by omega) (fun z => by have := hpos z; omega) a1 a2 (fun _ => a3) (fun k hk => ⟨(a4 k hk).1, (a4 k hk).2.1, fun _ => (a4 k hk).2.2⟩)⟩
      have hnm : ¬ stp 4 q < most := fun w => z (by rw [if_pos w]; decide)
      have h0 : fld (4 * t + c) = 0 := by
        rcases e with e | e
        · exact absurd (by simpa using e) hnm
        · exact e
      have r24 := @c24T l X (d + 1) I J 0 0 cnt fld fty hT (4 * t + c) hf
      rw [h0] at r24
      exact b96_69 (c21 t c) (b96_79 r24 (b96_82 (fun z => absurd rfl z) (fun _ => b96_85 r44 b96_92)))
    · rw [if_neg e]
      obtain ⟨I', rr, hF, hH⟩ := c96_loop (x5 := x5) hT ht hq hm h14 r (c + 1) (by omega)
      refine ⟨I', b96_51 (c19T hT ht) (b96_61 (fun z => absurd z (nI_ge (by omega) (by omega))) (fun _ => b96_64 (fun z => absurd ?_ z) (fun _ => b96_69 (c21 t c) (b96_79 (c24T hT hf) (b96_82 (fun _ => b96_94 ?_) (fun z => absurd (fun w => e (Or.inr ((nI_eq (b := 0) (by omega) (by omega)).mp w))) z)))))), hF, hH⟩
      · rw [if_neg (fun w => e (Or.inl (by simpa using w)))]
      · rw [nI_1]; exact rr
/-- advance; cur is 0 at a hole, c + 1 at the constructor c -/
theorem c96 {cur : Nat} (hT : TV I 2 3 4 cnt fld fty) (ht : t < 6) (hq : isPb q = true) (hm : most ≤ 4) (h14 : I 14 q = nI t) (h15 : I 15 q = (if cur = 0 then -2 else nI (cur - 1))) (hc : cur ≤ cnt t) :
    ∃ I', mm_Call l X 96 (d + 2) [.ref 13, .int (nI q), .int (nI most)] (mm_Λ, I, J) mc ms (.inl (some (.int (nxA (nx fld t (decide (stp 4 q < most)) (cnt t - cur) cur))))) (mm_Λ, I', J) ∧ FrC q I I' ∧ HT true cnt fld fty (I' 14) (I' 15) (I' 16) (most - stp 4 q) (nxT (nx fld t (decide (stp 4 q < most)) (cnt t - cur) cur)) t q := by
  have hq6 := isPb_lt hq
  obtain ⟨f1, f2, f3, f4, f5⟩ := pz_facts q hq6 hq
  have h4 := (hT.1 t ht).2
  obtain ⟨I', rr, hF, hH⟩ := @c96_loop l X d I J mc ms cnt fld fty t q most (nI cur) hT ht hq hm h14 (cnt t - cur) cur (by omega)
  refine ⟨I', ?_, hF, hH⟩
  have q0 := @b96_0 l X (d + 1) I J (nI q) (nI most)
  rw [ix_cl (by omega), h14] at q0
  refine q0 (ix_in hq6 (by omega)) (c85 q hq6) ?_
  have tail : mm_Run l X 96 (d + 2) 20 [.ref 13, .int (nI q), .int (nI most), .int (nI t), .null, .null, .null] [.int (if stp 4 q < most then 1 else 0)] (mm_Λ, I, J) mc ms (.inl (some (.int (nxA (nx fld t (decide (stp 4 q < most)) (cnt t - cur) cur))))) (mm_Λ, I', J) := by
    refine b96_20 (ix_in hq6 (by omega)) (fun z => ?_) (fun z => ?_)
    · rw [ix_cl (by omega), h15] at z
      have hn0 : ¬ cur = 0 := fun w => z (if_pos w)
      have q37 := @b96_37 l X (d + 1) I J (nI q) (nI most) (nI t) (if stp 4 q < most then 1 else 0) mc ms (.inl (some (.int (nxA (nx fld t (decide (stp 4 q < most)) (cnt t - cur) cur))))) (mm_Λ, I', J) (ix_in hq6 (by omega))
      rw [ix_cl (by omega), h15, if_neg hn0, nI_1, Nat.sub_add_cancel (by omega)] at q37
      exact q37 (b96_45 rr)
    · rw [ix_cl (by omega), h15] at z
      have h0 : cur = 0 := by
        apply Decidable.byContradiction
        intro w
        rw [if_neg w] at z
        exact z (nI_ne2 (by omega))
      refine b96_33 (b96_45 ?_)
      rw [h0, nI_0] at rr
      rw [h0]
      exact rr
  by_cases hlt : stp 4 q < most
  · rw [if_pos hlt] at tail
    exact b96_11 (fun z => absurd z (nI_ge hlt (by omega))) (fun _ => b96_15 tail)
  · rw [if_neg hlt] at tail
    exact b96_11 (fun _ => b96_19 tail) (fun z => absurd (nI_le (by omega) (by omega)) z)
end ADV
