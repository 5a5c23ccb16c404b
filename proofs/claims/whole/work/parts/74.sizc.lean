/-! ===== showSized of the class ===== -/
section SIZC
variable {l : Launch} {X : Nat × (Nat → Int32)} {d : Nat} {I I' : Nat → Nat → Int32} {J : Nat → Nat → Int64} {mc ms : Nat} {cnt fld fty : Nat → Nat} {t c s n : Nat}
theorem c33T (hT : TI cnt fld fty I J) {u p : Nat} (hu : u < 6) (h1 : 1 ≤ p) (h2 : p ≤ 12) : mm_Call l X 33 d [.ref 8, .int (nI u), .int (nI p)] (mm_Λ, I, J) mc ms (.inl (some (.long (lN (SN cnt fld fty p u))))) (mm_Λ, I, J) := by
  have r := @c33 l X d I J mc ms u p hu (by omega)
  rw [hT.2.2.2.1 p u h1 h2 hu] at r
  exact r
theorem c34T (hT : TI cnt fld fty I J) (ht : t < 6) (hc : c < cnt t) {k m : Nat} (hk : k ≤ fld (4 * t + c)) (hm : m < 12) : mm_Call l X 34 d [.ref 8, .int (nI (4 * t + c)), .int (nI k), .int (nI m)] (mm_Λ, I, J) mc ms (.inl (some (.long (lN (wW (SN cnt fld fty) fld fty (4 * t + c) (fld (4 * t + c) - k) m))))) (mm_Λ, I, J) := by
  have hf := hT.1.tw.form ht hc
  have h3 := hT.1.tw.2.1 _ hf
  have r := @c34 l X d I J mc ms (4 * t + c) k m hf (by omega) (by omega)
  rw [hT.2.2.2.2 m t c k hm ht hc hk] at r
  exact r
/-- waysWithPart -/
theorem c61 (hT : TI cnt fld fty I J) (ht : t < 6) (hc : c < cnt t) {j p left : Nat} (hj : j + 1 ≤ fld (4 * t + c)) (h1 : 1 ≤ p) (h2 : p ≤ left) (h3 : left ≤ 11) :
    mm_Call l X 61 (d + 1) [.ref 17, .int (nI (4 * t + c)), .int (nI (fld (4 * t + c) - (j + 1))), .int (nI p), .int (nI left)] (mm_Λ, I, J) mc ms (.inl (some (.long (lN (SN cnt fld fty p (fty (3 * (4 * t + c) + (fld (4 * t + c) - (j + 1)))) * wW (SN cnt fld fty) fld fty (4 * t + c) j (left - p)))))) (mm_Λ, I, J) := by
  have hf := hT.1.tw.form ht hc
  have hu := hT.1.tw.2.2 _ hf (fld (4 * t + c) - (j + 1)) (by omega)
  have r34 := @c34T l X d I J 0 0 cnt fld fty t c hT ht hc (fld (4 * t + c) - (j + 1) + 1) (left - p) (by omega) (by omega)
  rw [show fld (4 * t + c) - (fld (4 * t + c) - (j + 1) + 1) = j by omega] at r34
  have q := @b61_40 l X d I J (nI (4 * t + c)) (nI (fld (4 * t + c) - (j + 1))) (nI p) (nI left) (lN (wW (SN cnt fld fty) fld fty (4 * t + c) j (left - p))) (lN (SN cnt fld fty p (fty (3 * (4 * t + c) + (fld (4 * t + c) - (j + 1)))))) mc ms
  rw [lN_mul] at q
  exact b61_0 (fun _ => b61_8 (c26T hT.1 hf (by omega)) (b61_21 (c33T hT hu h1 (by omega)) (b61_25 (I1 := I) (J1 := J) (by rw [nI_1, nI_sub h2]; exact r34) q))) (fun z => absurd (nI_le h2 (by omega)) z)
theorem c60_in (hT : TI cnt fld fty I J) (ht : t < 6) (hc : c < cnt t) {x3 : Int64} {j bef left : Nat} {g : Nat → Nat} {xu : Int32} (hj : j + 1 ≤ fld (4 * t + c)) (h3 : left ≤ 11) (hg : g = shF (SN cnt fld fty) fld fty (4 * t + c) j bef left) (hb : ∀ p, 1 ≤ p → p ≤ left → g p < 2 ^ 62) {o : mm_O} {σ' : mm_S} : ∀ (n p r : Nat), p + n = left → 1 ≤ p → r < 2 ^ 62 →
    mm_Run l X 60 (d + 2) 102 [.ref 17, .int (nI (4 * t + c)), .int (nI s), .long x3, .null, .long (lN (pkC g n p r).2), .null, .long (lN bef), .null, .int (nI left), .int (nI (fld (4 * t + c) - (j + 1))), .int xu, .int (nI (pkC g n p r).1), .long (lN (g (pkC g n p r).1)), .null] [] (mm_Λ, I, J) mc ms o σ' →
    mm_Run l X 60 (d + 2) 58 [.ref 17, .int (nI (4 * t + c)), .int (nI s), .long x3, .null, .long (lN r), .null, .long (lN bef), .null, .int (nI left), .int (nI (fld (4 * t + c) - (j + 1))), .int xu, .int (nI p), .long (lN (g p)), .null] [] (mm_Λ, I, J) mc ms o σ'
  | 0, p, r, hp, h1, hr, rr => b60_58 (fun _ => rr) (fun z => absurd (nI_le (by omega) (by omega)) z)
  | n + 1, p, r, hp, h1, hr, rr => by
    have hbp := hb p h1 (by omega)
    have r61 := @c61 l X d I J 0 0 cnt fld fty t c hT ht hc j (p + 1) left hj (by omega) (by omega) h3
    rw [pkC] at rr
    refine b60_58 (fun z => absurd z (nI_ge (by omega) (by omega))) (fun _ => b60_65 (fun q => ?_) (fun q => b60_73 (I1 := I) (J1 := J) (by rw [nI_1]; exact r61) (b60_96 ?_)))
    · have hlt : r < g p := (gL_lt (by omega) (by omega)).mp ((lgclt _ _).mp q)
      rw [if_pos hlt] at rr
      exact rr
    · have hlt : ¬ r < g p := fun z => q ((lgclt _ _).mpr ((gL_lt (by omega) (by omega)).mpr z))
      rw [if_neg hlt] at rr
      have eg : bef * (SN cnt fld fty (p + 1) (fty (3 * (4 * t + c) + (fld (4 * t + c) - (j + 1)))) * wW (SN cnt fld fty) fld fty (4 * t + c) j (left - (p + 1))) = g (p + 1) := by rw [hg]; rfl
      rw [lN_sub (by omega), nI_1, lN_mul, eg]
      exact c60_in hT ht hc hj h3 hg hb n (p + 1) (r - g p) (by omega) (by omega) (by omega) rr
theorem c60_loop (ht : t < 6) (hc : c < cnt t) {x3 : Int64} (hs : s ≤ 12) : ∀ (j bef left r : Nat) (I : Nat → Nat → Int32), j ≤ fld (4 * t + c) → left ≤ 11 → r < bef * wW (SN cnt fld fty) fld fty (4 * t + c) j left → bef * wW (SN cnt fld fty) fld fty (4 * t + c) j left < 2 ^ 62 → TI cnt fld fty I J →
    ∃ I', mm_Run l X 60 (d + 2) 14 [.ref 17, .int (nI (4 * t + c)), .int (nI s), .long x3, .null, .long (lN r), .null, .long (lN bef), .null, .int (nI left), .int (nI (fld (4 * t + c) - j)), .null, .null, .null, .null] [] (mm_Λ, I, J) mc ms (.inl (some (.long (lN (shr (SN cnt fld fty) fld fty (4 * t + c) j bef left r).2)))) (mm_Λ, I', J) ∧ (∀ q, q ≠ 18 → I' q = I q) ∧ (∀ i, (i < 3 * s + (fld (4 * t + c) - j) ∨ 3 * s + fld (4 * t + c) ≤ i) → I' 18 i = I 18 i) ∧ ∀ k, fld (4 * t + c) - j ≤ k → k < fld (4 * t + c) → I' 18 (3 * s + k) = nI ((shr (SN cnt fld fty) fld fty (4 * t + c) j bef left r).1 k)
  | 0, bef, left, r, I, hj, hl, hr, hb, hT => by
    have hf := hT.1.tw.form ht hc
    have h3 := hT.1.tw.2.1 _ hf
    exact ⟨I, b60_14 (c24T hT.1 hf) (b60_24 (fun _ => b60_144) (fun z => absurd (nI_le (by omega) (by omega)) z)), fun _ _ => rfl, fun _ _ => rfl, fun k a b => by omega⟩
  | j + 1, bef, left, r, I, hj, hl, hr, hb, hT => by
    have hf := hT.1.tw.form ht hc
    have h3 := hT.1.tw.2.1 _ hf
    have hu := hT.1.tw.2.2 _ hf (fld (4 * t + c) - (j + 1)) (by omega)
    obtain ⟨x1, x2, x3', x4, x5, x6, x7⟩ := shX_ok hr
    have hbg : ∀ p, 1 ≤ p → p ≤ left → shF (SN cnt fld fty) fld fty (4 * t + c) j bef left p < 2 ^ 62 := fun p a b => by
      have e : bef * wW (SN cnt fld fty) fld fty (4 * t + c) (j + 1) left = sumP (shF (SN cnt fld fty) fld fty (4 * t + c) j bef left) left 1 := by
        rw [wW, ← sumP_mul]; rfl
      have := sumP_one (g := shF (SN cnt fld fty) fld fty (4 * t + c) j bef left) (i := p) left 1 a (by omega)
      omega
    have eX : shX (SN cnt fld fty) fld fty (4 * t + c) j bef left r = pkC (shF (SN cnt fld fty) fld fty (4 * t + c) j bef left) (left - 1) 1 r := rfl
    have hX12 : (shX (SN cnt fld fty) fld fty (4 * t + c) j bef left r).1 ≤ 12 := by omega
    have hsk : ∀ k, k ≠ fld (4 * t + c) - (j + 1) → (shr (SN cnt fld fty) fld fty (4 * t + c) (j + 1) bef left r).1 k = (shr (SN cnt fld fty) fld fty (4 * t + c) j (bef * SN cnt fld fty (shX (SN cnt fld fty) fld fty (4 * t + c) j bef left r).1 (fty (3 * (4 * t + c) + (fld (4 * t + c) - (j + 1))))) (left - (shX (SN cnt fld fty) fld fty (4 * t + c) j bef left r).1) (shX (SN cnt fld fty) fld fty (4 * t + c) j bef left r).2).1 k := fun k hk => if_neg hk
    have hs0 : (shr (SN cnt fld fty) fld fty (4 * t + c) (j + 1) bef left r).1 (fld (4 * t + c) - (j + 1)) = (shX (SN cnt fld fty) fld fty (4 * t + c) j bef left r).1 := if_pos rfl
    have hs2 : (shr (SN cnt fld fty) fld fty (4 * t + c) (j + 1) bef left r).2 = (shr (SN cnt fld fty) fld fty (4 * t + c) j (bef * SN cnt fld fty (shX (SN cnt fld fty) fld fty (4 * t + c) j bef left r).1 (fty (3 * (4 * t + c) + (fld (4 * t + c) - (j + 1))))) (left - (shX (SN cnt fld fty) fld fty (4 * t + c) j bef left r).1) (shX (SN cnt fld fty) fld fty (4 * t + c) j bef left r).2).2 := rfl
    generalize hXe : shX (SN cnt fld fty) fld fty (4 * t + c) j bef left r = Y at *
    have hT2 : TI cnt fld fty (mm_set I 18 (3 * s + (fld (4 * t + c) - (j + 1))) (nI Y.1)) J := hT.same (fun p hp => mm_set_ne (by rintro rfl; simp at hp)) (fun _ _ => rfl)
    obtain ⟨I', rr, f1, f2, f3⟩ := c60_loop ht hc (x3 := x3) hs j (bef * SN cnt fld fty Y.1 (fty (3 * (4 * t + c) + (fld (4 * t + c) - (j + 1))))) (left - Y.1) Y.2 (mm_set I 18 (3 * s + (fld (4 * t + c) - (j + 1))) (nI Y.1)) (by omega) (by omega) x6 (by omega) hT2
    rw [hs2]
    refine ⟨I', b60_14 (c24T hT.1 hf) (b60_24 (fun z => absurd z (nI_ge (by omega) (by omega))) (fun _ => b60_27 (c26T hT.1 hf (by omega)) ?_)), fun q hq => by rw [f1 q hq, mm_set_ne hq], fun i hi => ?_, fun k a b => ?_⟩
    · have r61 := @c61 l X d I J 0 0 cnt fld fty t c hT ht hc j 1 left hj (by omega) (by omega) hl
      have q37 := @b60_37 l X (d + 1) I J (nI (4 * t + c)) (nI s) x3 (lN r) (lN bef) (nI left) (nI (fld (4 * t + c) - (j + 1))) (nI (fty (3 * (4 * t + c) + (fld (4 * t + c) - (j + 1)))))
      rw [show (1 : Int32) = nI 1 from rfl] at q37
      refine q37 r61 (b60_55 ?_)
      have eg : bef * (SN cnt fld fty 1 (fty (3 * (4 * t + c) + (fld (4 * t + c) - (j + 1)))) * wW (SN cnt fld fty) fld fty (4 * t + c) j (left - 1)) = shF (SN cnt fld fty) fld fty (4 * t + c) j bef left 1 := rfl
      rw [lN_mul, eg]
      refine c60_in hT ht hc hj hl rfl hbg (left - 1) 1 r (by omega) (Nat.le_refl _) (by omega) ?_
      rw [← eX]
      have q102 := @b60_102 l X (d + 1) I J (nI (4 * t + c)) (nI s) x3 (lN Y.2) (lN bef) (nI left) (nI (fld (4 * t + c) - (j + 1))) (nI (fty (3 * (4 * t + c) + (fld (4 * t + c) - (j + 1))))) (nI Y.1) (lN (shF (SN cnt fld fty) fld fty (4 * t + c) j bef left Y.1))
      rw [ix3, ix_cl (by omega)] at q102
      refine q102 (ix_in (by omega) (by omega)) (c33T hT2 hu x2 hX12) (b60_128 ?_)
      rw [lN_mul, nI_sub x3', nI_1, show fld (4 * t + c) - (j + 1) + 1 = fld (4 * t + c) - j by omega]
      exact rr
    · rw [f2 i (by omega)]
      have : i ≠ 3 * s + (fld (4 * t + c) - (j + 1)) := by omega
      simp [mm_set, this]
    · by_cases e : k = fld (4 * t + c) - (j + 1)
      · subst e
        rw [hs0, f2 _ (by omega)]
        simp [mm_set]
      · rw [hsk k e]
        exact f3 k (by omega) b
/-- share -/
theorem c60 (hT : TI cnt fld fty I J) (ht : t < 6) (hc : c < cnt t) {m r : Nat} (hm : m < 12) (hr : r < wW (SN cnt fld fty) fld fty (4 * t + c) (fld (4 * t + c)) m) :
    ∃ I', mm_Call l X 60 (d + 2) [.ref 17, .int (nI (4 * t + c)), .int (nI (m + 1)), .long (lN r)] (mm_Λ, I, J) mc ms (.inl (some (.long (lN (shr (SN cnt fld fty) fld fty (4 * t + c) (fld (4 * t + c)) 1 m r).2)))) (mm_Λ, I', J) ∧ (∀ q, q ≠ 18 → I' q = I q) ∧ (∀ i, (i < 3 * (m + 1) ∨ 3 * (m + 1) + 3 ≤ i) → I' 18 i = I 18 i) ∧ ∀ k, k < fld (4 * t + c) → I' 18 (3 * (m + 1) + k) = nI ((shr (SN cnt fld fty) fld fty (4 * t + c) (fld (4 * t + c)) 1 m r).1 k) := by
  have hf := hT.1.tw.form ht hc
  have h3 := hT.1.tw.2.1 _ hf
  have hb := wW_lt hT.1.tw hf (Nat.le_refl (fld (4 * t + c))) hm
  obtain ⟨I', rr, f1, f2, f3⟩ := @c60_loop l X d J mc ms cnt fld fty t c (m + 1) ht hc (lN r) (by omega) (fld (4 * t + c)) 1 m r I (Nat.le_refl _) (by omega) (by rw [Nat.one_mul]; exact hr) (by rw [Nat.one_mul]; omega) hT
  rw [Nat.sub_self] at rr f2 f3
  refine ⟨I', b60_0 ?_, f1, fun i hi => f2 i (by omega), fun k hk => f3 k (Nat.zero_le _) hk⟩
  rw [nI_pred, lit_1, ← nI_0]
  exact rr
theorem c62_loop (hT : TI cnt fld fty I J) (hf : 4 * t + c < 24) {k m : Nat} {part g : Nat → Nat} (hm : m < 12) (hp : ∀ i, i < fld (4 * t + c) → I 18 (3 * (m + 1) + i) = nI (part i) ∧ 1 ≤ part i ∧ part i ≤ 12) (hg : g = fun i => SN cnt fld fty (part i) (fty (3 * (4 * t + c) + i))) : ∀ (n i acc : Nat), i + n = fld (4 * t + c) →
    mm_Run l X 62 (d + 1) 8 [.ref 17, .int (nI (4 * t + c)), .int (nI (m + 1)), .int (nI k), .long (lN acc), .null, .int (nI i)] [] (mm_Λ, I, J) mc ms (.inl (some (.long (lN (acc * prd g n i))))) (mm_Λ, I, J)
  | 0, i, acc, hi => by
    have h3 := hT.1.tw.2.1 _ hf
    rw [prd, Nat.mul_one]
    exact b62_8 (c24T hT.1 hf) (b62_18 (fun _ => b62_60) (fun z => absurd (nI_le (by omega) (by omega)) z))
  | n + 1, i, acc, hi => by
    have h3 := hT.1.tw.2.1 _ hf
    obtain ⟨p1, p2, p3⟩ := hp i (by omega)
    have hu := hT.1.tw.2.2 _ hf i (by omega)
    have rr := c62_loop hT hf (k := k) hm hp hg n (i + 1) (acc * g i) (by omega)
    have q37 := @b62_37 l X d I J (nI (4 * t + c)) (nI (m + 1)) (nI k) (lN acc) (nI i) (nI (fty (3 * (4 * t + c) + i))) (lN acc)
    rw [ix3, ix_cl (by omega), p1] at q37
    refine b62_8 (c24T hT.1 hf) (b62_18 (fun z => absurd z (nI_ge (by omega) (by omega))) (fun _ => b62_21 (c26T hT.1 hf (by omega)) (q37 (ix_in (by omega) (by omega)) (c33T hT hu p2 p3) (b62_51 ?_))))
    have eg : SN cnt fld fty (part i) (fty (3 * (4 * t + c) + i)) = g i := by rw [hg]
    rw [lN_mul, nI_1, eg, prd, ← Nat.mul_assoc]
    exact rr
/-- waysAfter -/
theorem c62 (hT : TI cnt fld fty I J) (hf : 4 * t + c < 24) {k m : Nat} {part g : Nat → Nat} (hm : m < 12) (hk : k < fld (4 * t + c)) (hp : ∀ i, i < fld (4 * t + c) → I 18 (3 * (m + 1) + i) = nI (part i) ∧ 1 ≤ part i ∧ part i ≤ 12) (hg : g = fun i => SN cnt fld fty (part i) (fty (3 * (4 * t + c) + i))) :
    mm_Call l X 62 (d + 1) [.ref 17, .int (nI (4 * t + c)), .int (nI (m + 1)), .int (nI k)] (mm_Λ, I, J) mc ms (.inl (some (.long (lN (prd g (fld (4 * t + c) - (k + 1)) (k + 1)))))) (mm_Λ, I, J) := by
  have rr := @c62_loop l X d I J mc ms cnt fld fty t c hT hf k m part g hm hp hg (fld (4 * t + c) - (k + 1)) (k + 1) 1 (by omega)
  rw [Nat.one_mul] at rr
  refine b62_0 ?_
  rw [nI_1, lit_1]
  exact rr
/-- the fields, from k on -/
theorem c59_kids {w r0 m : Nat} {x3 : Int64} {part G : Nat → Nat} {g : Nat → List Int32} (hf : 4 * t + c < 24) (hm : m < 12) (hG : G = fun i => SN cnt fld fty (part i) (fty (3 * (4 * t + c) + i))) (hr0 : r0 < 2 ^ 60) (hP : ∀ k i, k + i = fld (4 * t + c) → prd G i k < 2 ^ 60 ∧ 0 < prd G i k)
    (hp : ∀ i, i < fld (4 * t + c) → 1 ≤ part i ∧ part i ≤ m)
    (hIH : ∀ k (I : Nat → Nat → Int32) (L : List Int32), k < fld (4 * t + c) → TI cnt fld fty I J → RW (I 11 1) (I 12) L → L.length + part k ≤ 121 → ∃ I', mm_Call l X 58 (w + 1) [.ref 17, .int (nI (fty (3 * (4 * t + c) + k))), .int (nI (part k)), .long (lN (dg G (fld (4 * t + c)) r0 k))] (mm_Λ, I, J) 0 0 (.inl none) (mm_Λ, I', J) ∧ RW (I' 11 1) (I' 12) (L ++ g k) ∧ (g k).length = part k ∧ (∀ q, q ∉ [11, 12, 18] → I' q = I q) ∧ ∀ i, 3 * (m + 1) ≤ i → I' 18 i = I 18 i) :
    ∀ (n k : Nat) (I : Nat → Nat → Int32) (L : List Int32), k + n = fld (4 * t + c) → TI cnt fld fty I J → RW (I 11 1) (I 12) L → (∀ i, i < fld (4 * t + c) → I 18 (3 * (m + 1) + i) = nI (part i)) → L.length + sm part n k ≤ 121 →
    ∃ I', mm_Run l X 59 (w + 2) 12 [.ref 17, .int (nI (4 * t + c)), .int (nI (m + 1)), .long x3, .null, .long (lN (r0 % prd G n k)), .null, .int (nI k), .null, .null] [] (mm_Λ, I, J) mc ms (.inl none) (mm_Λ, I', J) ∧ RW (I' 11 1) (I' 12) (L ++ cat g n k) ∧ (∀ q, q ∉ [11, 12, 18] → I' q = I q) ∧ ∀ i, 3 * (m + 1) ≤ i → I' 18 i = I 18 i
  | 0, k, I, L, hk, hT, hR, hp18, hL => by
    have h3 := hT.1.tw.2.1 _ hf
    exact ⟨I, b59_12 (c24T hT.1 hf) (b59_22 (fun _ => b59_85) (fun z => absurd (nI_le (by omega) (by omega)) z)), by rw [cat, List.append_nil]; exact hR, fun _ _ => rfl, fun _ _ => rfl⟩
  | n + 1, k, I, L, hk, hT, hR, hp18, hL => by
    have h3 := hT.1.tw.2.1 _ hf
    rw [sm] at hL
    have hnk : fld (4 * t + c) - (k + 1) = n := by omega
    obtain ⟨hP1, hP2⟩ := hP (k + 1) n (by omega)
    have hrP : r0 % prd G (n + 1) k = r0 % (G k * prd G n (k + 1)) := rfl
    have hdiv : r0 % prd G (n + 1) k / prd G n (k + 1) = dg G (fld (4 * t + c)) r0 k := by
      rw [hrP, Nat.mod_mul_left_div_self, dg, hnk]
    have hmod : r0 % prd G (n + 1) k % prd G n (k + 1) = r0 % prd G n (k + 1) := by
      rw [hrP, Nat.mod_mul_left_mod]
    have hrest : r0 % prd G (n + 1) k < 2 ^ 62 := Nat.lt_of_le_of_lt (Nat.mod_le _ _) (by omega)
    have hp12 : ∀ i, i < fld (4 * t + c) → I 18 (3 * (m + 1) + i) = nI (part i) ∧ 1 ≤ part i ∧ part i ≤ 12 := fun i hi => ⟨hp18 i hi, (hp i hi).1, by have := (hp i hi).2; omega⟩
    have r62 := @c62 l X w I J 0 0 cnt fld fty t c hT hf k m part G hm (by omega) hp12 hG
    rw [hnk] at r62
    obtain ⟨I1, r1, hR1, hlen, f1, f2⟩ := hIH k I L (by omega) hT hR (by omega)
    have hT1 : TI cnt fld fty I1 J := hT.same (fun q hq => f1 q (by intro z; simp only [List.mem_cons, List.not_mem_nil, or_false] at hq z; omega)) (fun _ _ => rfl)
    obtain ⟨I', rr, hR', g1, g2⟩ := c59_kids (x3 := x3) hf hm hG hr0 hP hp hIH n (k + 1) I1 (L ++ g k) (by omega) hT1 hR1 (fun i hi => by rw [f2 _ (by omega)]; exact hp18 i hi) (by rw [List.length_append, hlen]; omega)
    have hn0 : ¬ lN (prd G n (k + 1)) = 0 := fun q => absurd ((gL_eq (by omega) (by omega)).mp (q.trans lit_0)) (by omega)
    have q53 := @b59_53 l X (w + 1) I J (nI (4 * t + c)) (nI (m + 1)) x3 (lN (r0 % prd G (n + 1) k)) (nI k) (lN (prd G n (k + 1))) (nI (fty (3 * (4 * t + c) + k)))
    rw [ix3, ix_cl (by omega), hp18 k (by omega), gL_div hrest (by omega), hdiv] at q53
    refine ⟨I', b59_12 (c24T hT.1 hf) (b59_22 (fun z => absurd z (nI_ge (by omega) (by omega))) (fun _ => b59_25 r62 (b59_33 (fun z => absurd ((lgcle _ _).mp z) (fun w => absurd ((gL_le (b := 0) (by omega) (by omega)).mp w) (by omega))) (fun _ => b59_42 (c26T hT.1 hf (by omega)) (q53 (ix_in (by omega) (by omega)) hn0 r1 (b59_72 hn0 (b59_79 ?_))))))), by rw [cat, ← List.append_assoc]; exact hR', fun q hq => by rw [g1 q hq, f1 q hq], fun i hi => by rw [g2 i hi, f2 i hi]⟩
    rw [gL_mod hrest (by omega), hmod, nI_1]
    exact rr
theorem c58_pick (hT : TI cnt fld fty I J) (ht : t < 6) {m : Nat} {x3 : Int64} (hm : m < 12) {o : mm_O} {σ' : mm_S} : ∀ (n c r : Nat), c + n + 1 = cnt t → r < 2 ^ 62 →
    mm_Run l X 58 (d + 1) 78 [.ref 17, .int (nI t), .int (nI (m + 1)), .long x3, .null, .long (lN (pkC (fun c => wW (SN cnt fld fty) fld fty (4 * t + c) (fld (4 * t + c)) m) n c r).2), .null, .int (nI (pkC (fun c => wW (SN cnt fld fty) fld fty (4 * t + c) (fld (4 * t + c)) m) n c r).1)] [] (mm_Λ, I, J) mc ms o σ' →
    mm_Run l X 58 (d + 1) 12 [.ref 17, .int (nI t), .int (nI (m + 1)), .long x3, .null, .long (lN r), .null, .int (nI c)] [] (mm_Λ, I, J) mc ms o σ'
  | 0, c, r, hc, hr, rr => by
    have h4 := hT.1.tw.1 t ht
    exact b58_12 (c19T hT.1 ht) (b58_22 (fun _ => rr) (fun q => absurd (by rw [nI_m1 (by omega)]; exact nI_le (by omega) (by omega)) q))
  | n + 1, c, r, hc, hr, rr => by
    have h4 := hT.1.tw.1 t ht
    have hcc : c < cnt t := by omega
    have hf := hT.1.tw.form ht hcc
    have hb := wW_lt hT.1.tw hf (Nat.le_refl (fld (4 * t + c))) hm
    have r34 := @c34T l X d I J 0 0 cnt fld fty t c hT ht hcc 0 m (Nat.zero_le _) hm
    rw [Nat.sub_zero, nI_0] at r34
    rw [pkC] at rr
    refine b58_12 (c19T hT.1 ht) (b58_22 (fun q => absurd q (by rw [nI_m1 (by omega)]; exact nI_ge (by omega) (by omega))) (fun _ => b58_27 (c21 t c) (b58_39 (I1 := I) (J1 := J) (by rw [nI_pred]; exact r34) (b58_46 (fun q => ?_) (fun q => b58_50 (c21 t c) (b58_62 (I1 := I) (J1 := J) (by rw [nI_pred]; exact r34) (b58_69 ?_)))))))
    · have hlt : r < wW (SN cnt fld fty) fld fty (4 * t + c) (fld (4 * t + c)) m := (gL_lt (by omega) (by omega)).mp ((lgclt _ _).mp q)
      rw [if_pos hlt] at rr
      exact rr
    · have hlt : ¬ r < wW (SN cnt fld fty) fld fty (4 * t + c) (fld (4 * t + c)) m := fun z => q ((lgclt _ _).mpr ((gL_lt (by omega) (by omega)).mpr z))
      rw [if_neg hlt] at rr
      rw [lN_sub (by omega), nI_1]
      exact c58_pick hT ht hm n (c + 1) _ (by omega) (by omega) rr
/-- writePart -/
theorem c58 : ∀ (e s t n : Nat) (I : Nat → Nat → Int32) (L : List Int32), s ≤ e → 1 ≤ s → s ≤ 12 → t < 6 → n < SN cnt fld fty s t → TI cnt fld fty I J → RW (I 11 1) (I 12) L → L.length + s ≤ 121 →
    ∃ I', mm_Call l X 58 (d + 2 * e + 3) [.ref 17, .int (nI t), .int (nI s), .long (lN n)] (mm_Λ, I, J) mc ms (.inl none) (mm_Λ, I', J) ∧ RW (I' 11 1) (I' 12) (L ++ szL cnt fld fty e s t n) ∧ (∀ q, q ∉ [11, 12, 18] → I' q = I q) ∧ ∀ i, 3 * (s + 1) ≤ i → I' 18 i = I 18 i := by
  intro e
  induction e generalizing mc ms with
  | zero => intro s t n I L h h1; omega
  | succ e ih =>
    intro s t n I L hse h1 hs ht hn hT hR hL
    obtain ⟨m, rfl⟩ : ∃ m, s = m + 1 := ⟨s - 1, by omega⟩
    have hm : m < 12 := by omega
    obtain ⟨c1, c2, c3, c4, c5⟩ := szC_ok hn
    obtain ⟨p1, p2, p3, p4⟩ := szP_ok hn
    have hf := hT.1.tw.form ht c1
    have h4 := hT.1.tw.1 t ht
    have hn42 := SN_lt hT.1.tw (show m + 1 ≤ 12 by omega) ht
    obtain ⟨I1, r1, hR1, f1⟩ := @c50 l X (d + 2 * e + 4) I J 0 0 L (nI (szC cnt fld fty m t n).1) hR (by omega)
    have hT1 : TI cnt fld fty I1 J := hT.same (fun q hq => f1 q (by rintro rfl; simp at hq) (by rintro rfl; simp at hq)) (fun _ _ => rfl)
    obtain ⟨I2, r2, g1, g2, g3⟩ := @c60 l X (d + 2 * e + 1) I1 J 0 0 cnt fld fty t (szC cnt fld fty m t n).1 hT1 ht c1 m (szC cnt fld fty m t n).2 hm c2
    have hT2 : TI cnt fld fty I2 J := hT1.same (fun q hq => g1 q (by rintro rfl; simp at hq)) (fun _ _ => rfl)
    obtain ⟨I3, r3, hR3, k1, k2⟩ := @c59_kids l X J 0 0 cnt fld fty t (szC cnt fld fty m t n).1 (d + 2 * e + 2) (szP cnt fld fty m t n).2 m (lN (szC cnt fld fty m t n).2) (szP cnt fld fty m t n).1 (szG cnt fld fty m t n) (fun k => szL cnt fld fty e ((szP cnt fld fty m t n).1 k) (fty (3 * (4 * t + (szC cnt fld fty m t n).1) + k)) (dg (szG cnt fld fty m t n) (fld (4 * t + (szC cnt fld fty m t n).1)) (szP cnt fld fty m t n).2 k)) hf hm rfl (by omega)
      (fun k i hk => by
        obtain ⟨z1, z2⟩ := szG_lt hT.1.tw ht hm hn hk
        exact ⟨by omega, z2⟩) p1
      (fun k I4 L4 hk hT4 hR4 hL4 => by
        obtain ⟨q1, q2⟩ := p1 k hk
        have hu := hT.1.tw.2.2 _ hf k hk
        have hd : dg (szG cnt fld fty m t n) (fld (4 * t + (szC cnt fld fty m t n).1)) (szP cnt fld fty m t n).2 k < SN cnt fld fty ((szP cnt fld fty m t n).1 k) (fty (3 * (4 * t + (szC cnt fld fty m t n).1) + k)) := Nat.mod_lt _ (szG_pos hn hk)
        obtain ⟨I5, r5, hR5, y1, y2⟩ := ih (mc := 0) (ms := 0) ((szP cnt fld fty m t n).1 k) (fty (3 * (4 * t + (szC cnt fld fty m t n).1) + k)) _ I4 L4 (by omega) q1 (by omega) hu hd hT4 hR4 hL4
        exact ⟨I5, r5, hR5, szL_len hT.1.tw e _ _ _ (by omega) q1 hu hd, y1, fun i hi => y2 i (by omega)⟩)
      (fld (4 * t + (szC cnt fld fty m t n).1)) 0 I2 (L ++ [nI (szC cnt fld fty m t n).1]) (by omega) hT2 (by rw [g1 11 (by decide), g1 12 (by decide)]; exact hR1) g3 (by rw [p2, List.length_append, List.length_singleton]; omega)
    rw [Nat.mod_eq_of_lt p4, nI_0] at r3
    refine ⟨I3, b58_0 (fun _ => b58_6 ?_) (fun z => absurd (nI_le (a := 1) (by omega) (by omega)) z), ?_, fun q hq => ?_, fun i hi => ?_⟩
    · rw [← nI_0]
      exact c58_pick hT ht hm (cnt t - 1) 0 n (by omega) (by omega) (b58_78 r1 (b58_87 (c21 _ _) (b58_94 (b59_0 r2 (b59_7 r3)) b58_100)))
    · rw [szL, Nat.add_sub_cancel]
      rw [List.append_assoc] at hR3
      exact hR3
    · rw [k1 q hq]
      simp only [List.mem_cons, List.not_mem_nil, or_false, not_or] at hq
      rw [g1 q hq.2.2, f1 q hq.1 hq.2.1]
    · rw [k2 i (by omega), g2 i (by omega), f1 18 (by decide) (by decide)]
def zbar (cnt fld fty : Nat → Nat) (x y : Int32) (z : Int64) (k : Int32) : Prop :=
  (¬ isT x ∧ k = 1) ∨ (isT x ∧ ¬ isS y ∧ k = 2) ∨ (∃ t s, t < 6 ∧ 1 ≤ s ∧ s ≤ 12 ∧ x = nI t ∧ y = nI s ∧ ¬ (¬ z < 0 ∧ z < lN (SN cnt fld fty s t)) ∧ k = 3) ∨ (∃ t s n, t < 6 ∧ 1 ≤ s ∧ s ≤ 12 ∧ x = nI t ∧ y = nI s ∧ z = lN n ∧ n < SN cnt fld fty s t ∧ k = 0)
theorem zbar_ex (hW : TW cnt fld fty) (x y : Int32) (z : Int64) : ∃ k, zbar cnt fld fty x y z k := by
  by_cases h1 : isT x
  · by_cases h2 : isS y
    · obtain ⟨t, ht, e1⟩ := isT_nI h1
      obtain ⟨s, hs1, hs2, e2⟩ := isS_nI h2
      by_cases h3 : ¬ z < 0 ∧ z < lN (SN cnt fld fty s t)
      · obtain ⟨n, hn, e3⟩ := lN_of h3.1
        have hD := SN_lt hW hs2 ht
        refine ⟨0, Or.inr (Or.inr (Or.inr ⟨t, s, n, ht, hs1, hs2, e1, e2, e3, ?_, rfl⟩))⟩
        have h4 := h3.2
        rw [e3, Int64.lt_iff_toInt_lt, gL63 hn, gL63 (by omega)] at h4
        omega
      · exact ⟨3, Or.inr (Or.inr (Or.inl ⟨t, s, ht, hs1, hs2, e1, e2, h3, rfl⟩))⟩
    · exact ⟨2, Or.inr (Or.inl ⟨h1, h2, rfl⟩)⟩
  · exact ⟨1, Or.inl ⟨h1, rfl⟩⟩
theorem h_showSized {x y k : Int32} {z : Int64} (hT : TI cnt fld fty I J) (hb : zbar cnt fld fty x y z k) : ∃ I1 J1, mm_Call l X 55 (d + 30) [.ref 0, .int x, .int y, .long z, .ref 45] (mm_Λ, I, J) 1 6 (.inl (some (.int k))) (mm_Λ, I1, J1) ∧ (k ≠ 0 → I1 = I ∧ J1 = J) ∧
    (k = 0 → ∃ t s n, t < 6 ∧ 1 ≤ s ∧ s ≤ 12 ∧ x = nI t ∧ y = nI s ∧ z = lN n ∧ n < SN cnt fld fty s t ∧ RW (I1 11 1) (I1 12) (szL cnt fld fty 12 s t n) ∧ (szL cnt fld fty 12 s t n).length = s ∧ (∀ r, r ∉ [11, 12, 18] → I1 r = I r) ∧ J1 = mm_set J 45 0 (nI s).toInt64) := by
  rcases hb with ⟨h1, rfl⟩ | ⟨h1, h2, rfl⟩ | ⟨t, s, ht, hs1, hs2, rfl, rfl, h3, rfl⟩ | ⟨t, s, n, ht, hs1, hs2, rfl, rfl, rfl, hn, rfl⟩
  · exact ⟨I, J, b55_0c0 (mc := 0) (ms := 0) (b56_0t (c17_no h1)) b55_15, fun _ => ⟨rfl, rfl⟩, fun q => absurd q (by decide)⟩
  · exact ⟨I, J, b55_0c1 (mc := 0) (ms := 0) (b56_0 (c17_ok h1) (b56_4t (c54_no h2))) b55_19, fun _ => ⟨rfl, rfl⟩, fun q => absurd q (by decide)⟩
  · have r := @c33T l X (d + 28) I J 0 0 cnt fld fty hT t s ht hs1 hs2
    exact ⟨I, J, b55_0c2 (mc := 0) (ms := 0) (b56_0 (c17_ok (isT_of ht)) (b56_4 (c54_ok (isS_of hs1 hs2)) (b56_8 r (b56_18t (c40_no h3))))) b55_23, fun _ => ⟨rfl, rfl⟩, fun q => absurd q (by decide)⟩
  · have hD := SN_lt hT.1.tw hs2 ht
    have r := @c33T l X (d + 28) I J 0 0 cnt fld fty hT t s ht hs1 hs2
    have hz : ¬ lN n < 0 := fun q => absurd ((gL_lt (b := 0) (by omega) (by omega)).mp q) (by omega)
    have hT1 : TI cnt fld fty (mm_set I 11 1 0) J := hT.same (fun q hq => mm_set_ne (by rintro rfl; simp at hq)) (fun _ _ => rfl)
    obtain ⟨I2, r2, hR, f1, -⟩ := @c58 l X d J 0 0 cnt fld fty 12 s t n (mm_set I 11 1 0) [] hs2 hs1 hs2 ht hn hT1 ⟨by simp [mm_set]; rfl, fun j x hx => by simp at hx⟩ (by simp; omega)
    rw [List.nil_append] at hR
    have hlen := szL_len hT.1.tw 12 s t n hs2 hs1 ht hn
    have r3 := @c51 l X (d + 28) I2 J 0 0
    rw [hR.1, hlen] at r3
    exact ⟨I2, mm_set J 45 0 _, b55_0 (b56_0 (c17_ok (isT_of ht)) (b56_4 (c54_ok (isS_of hs1 hs2)) (b56_8 r (b56_18 (c40_ok ⟨hz, (gL_lt (by omega) (by omega)).mpr hn⟩) (b56_21 (b57_0 c48 (b57_7 r2 b57_14)) (b56_31 r3 b56_38)))))) (b55_10 (by unfold vp_in; decide) b55_27), fun q => absurd rfl q, fun _ => ⟨t, s, n, ht, hs1, hs2, rfl, rfl, rfl, hn, hR, hlen, fun q hq => by
      rw [f1 q hq]
      exact mm_set_ne (by simp only [List.mem_cons, List.not_mem_nil, or_false, not_or] at hq; exact hq.1), rfl⟩⟩
end SIZC
