section FILL2
variable {l : Launch} {X : Nat × (Nat → Int32)} {d : Nat} {I : Nat → Nat → Int32} {J : Nat → Nat → Int64} {mc ms : Nat} {cnt fld fty : Nat → Nat} {t q most m cur : Nat}
theorem c142_ab (hT : TV I 27 28 29 cnt fld fty) (ht : t < 6) (hc : cur ≤ cnt t) (ho : 0 < ofl fld t cur → q < 64) :
    ∃ I', (∀ {mc ms : Nat} {o : mm_O} {σ' : mm_S}, mm_Run l X 142 (d + 1) 73 [.ref 26, .int (nI q), .int (nI t), .int (kx cur), .int (nI (ofl fld t cur))] [] (mm_Λ, I', J) mc ms o σ' → mm_Run l X 142 (d + 1) 34 [.ref 26, .int (nI q), .int (nI t), .int (kx cur), .int 0] [] (mm_Λ, I, J) mc ms o σ') ∧ (∀ r, r ≠ 32 → I' r = I r) ∧ (∀ x, (∀ j, j < ofl fld t cur → x ≠ 4 * q + j + 1) → I' 32 x = I 32 x) ∧ ∀ j, j < ofl fld t cur → I' 32 (4 * q + j + 1) = -1 := by
  match cur, hc, ho with
  | 0, hc, ho => exact ⟨I, fun rr => b142_34 (fun _ => rr) (fun z => absurd (by decide) z), fun _ _ => rfl, fun _ _ => rfl, fun j hj => by simp [ofl] at hj⟩
  | c + 1, hc, ho =>
    have hf := hT.tw.form ht (show c < cnt t by omega)
    have h3 := hT.tw.2.1 _ hf
    have eo : ofl fld t (c + 1) = fld (4 * t + c) := by rw [ofl, if_neg (by omega)]; rfl
    rw [eo] at ho ⊢
    obtain ⟨I', st, f1, f2, f3⟩ := @c142_a l X d J cnt fld fty t q c hf h3 ho (fld (4 * t + c)) 0 I (by omega) hT
    refine ⟨I', fun rr => ?_, f1, fun x hx => f2 x fun j _ hj => hx j hj, fun j hj => f3 j (Nat.zero_le _) hj⟩
    have := st rr
    rw [nI_0] at this
    exact this
/-- fillNext; cur is 0 where the hole is new, c + 1 at the constructor c -/
theorem c142 (hT : TV I 27 28 29 cnt fld fty) (ht : t < 6) (hq : isPb q = true) (hm : most ≤ 4) (h24 : I 26 24 = nI most) (hm2 : m < 200) (h21 : I 26 21 = nI (m + 1)) (h43 : I 43 m = nI q) (h44 : I 44 m = kx cur) (h33 : I 33 q = nI t) (hc : cur ≤ cnt t) (ho : 0 < ofl fld t cur → q < 64) :
    ∃ I', mm_Call l X 142 (d + 1) [.ref 26] (mm_Λ, I, J) mc ms (.inl (some (.int (nxA (nx fld t (decide (stp 4 q < most)) (cnt t - cur) cur))))) (mm_Λ, I', J) ∧
      HT false cnt fld fty (I' 33) (I' 32) (I' 32) (most - stp 4 q) (nxT (nx fld t (decide (stp 4 q < most)) (cnt t - cur) cur)) t q ∧
      (∀ r, r ∉ [26, 32, 33, 44] → I' r = I r) ∧ (∀ i, i ≠ 21 → I' 26 i = I 26 i) ∧ (∀ j, j < m → I' 44 j = I 44 j) ∧
      (nx fld t (decide (stp 4 q < most)) (cnt t - cur) cur = none → I' 26 21 = nI m) ∧ (∀ c, nx fld t (decide (stp 4 q < most)) (cnt t - cur) cur = some c → I' 26 21 = nI (m + 1) ∧ I' 44 m = nI c) ∧
      (∀ x, ¬ bel q x → I' 32 x = I 32 x ∧ I' 33 x = I 33 x) ∧
      (∀ x, I' 32 x = -2 → (x = q ∧ nx fld t (decide (stp 4 q < most)) (cnt t - cur) cur = none) ∨ (∃ c k, nx fld t (decide (stp 4 q < most)) (cnt t - cur) cur = some c ∧ k < fld (4 * t + c) ∧ x = 4 * q + k + 1) ∨ (I 32 x = -2 ∧ x ≠ q ∧ ∀ k, k < ofl fld t cur → x ≠ 4 * q + k + 1)) := by
  have hq6 := isPb_lt hq
  obtain ⟨p1, p2, p3, p4, p5⟩ := pz_facts q hq6 hq
  have h4 := (hT.1 t ht).2
  have ho3 : ofl fld t cur ≤ 3 := by
    unfold ofl
    split
    · omega
    · exact hT.tw.2.1 _ (hT.tw.form ht (by omega))
  obtain ⟨I1, st1, f1, f2, f3⟩ := @c142_ab l X d I J cnt fld fty t q cur hT ht hc ho
  have hT2 : TV (mm_set I1 32 q (-2)) 27 28 29 cnt fld fty := hT.of (by rw [mm_set_ne (by decide), f1 27 (by decide)]) (by rw [mm_set_ne (by decide), f1 28 (by decide)]) (by rw [mm_set_ne (by decide), f1 29 (by decide)])
  have e26 : (mm_set I1 32 q (-2)) 26 = I 26 := by rw [mm_set_ne (by decide), f1 26 (by decide)]
  have e33 : (mm_set I1 32 q (-2)) 33 = I 33 := by rw [mm_set_ne (by decide), f1 33 (by decide)]
  have e44 : (mm_set I1 32 q (-2)) 44 = I 44 := by rw [mm_set_ne (by decide), f1 44 (by decide)]
  have eoth : ∀ r, r ≠ 32 → (mm_set I1 32 q (-2)) r = I r := fun r hr => by rw [mm_set_ne hr, f1 r hr]
  have e32q : (mm_set I1 32 q (-2)) 32 q = -2 := by simp [mm_set]
  have e32 : ∀ x, x ≠ q → (mm_set I1 32 q (-2)) 32 x = I1 32 x := fun x hx => by simp [mm_set, hx]
  have cc := fun {mc ms : Nat} {o : mm_O} {σ' : mm_S} => @c142_c l X d (mm_set I1 32 q (-2)) J mc ms cnt fld fty t q most (nI (ofl fld t cur)) hT2 ht hq hm (by rw [e26]; exact h24) o σ' (cnt t - cur) cur (by omega)
  have pre : ∀ {mc ms : Nat} {o : mm_O} {σ' : mm_S}, mm_Run l X 142 (d + 1) 124 [.ref 26, .int (nI q), .int (nI t), .int (nI ((nx fld t (decide (stp 4 q < most)) (cnt t - cur) cur).getD (cnt t))), .int (nI (ofl fld t cur))] [] (mm_Λ, mm_set I1 32 q (-2), J) mc ms o σ' → mm_Call l X 142 (d + 1) [.ref 26] (mm_Λ, I, J) mc ms o σ' := by
    intro mc ms o σ' rr
    have q0 := @b142_0 l X d I J mc ms o σ'
    rw [h21, nI_pred, ix_cl (by omega), h43, h44, ix_cl (by omega), h33] at q0
    refine q0 (ix_in (by omega) (by omega)) (ix_in hq6 (by omega)) (ix_in (by omega) (by omega)) (st1 (b142_73 (ix_in hq6 (by omega)) ?_))
    rw [ix_cl (by omega), show kx cur + 1 = nI cur by rw [← kx_dec, Int32.add_assoc]; exact Int32.add_zero _]
    exact cc rr
  have hm1 : ∀ x, I1 32 x = -2 → I 32 x = -2 ∧ ∀ k, k < ofl fld t cur → x ≠ 4 * q + k + 1 := fun x hx => by
    have hne : ∀ k, k < ofl fld t cur → x ≠ 4 * q + k + 1 := fun k hk z => by
      rw [z, f3 k hk] at hx
      exact absurd hx (by decide)
    exact ⟨by rw [← f2 x hne]; exact hx, hne⟩
  have hout : ∀ x, ¬ bel q x → x ≠ q ∧ I1 32 x = I 32 x := fun x hx => ⟨fun z => hx (by rw [z]; exact bel_self q), f2 x fun j hj z => hx (by rw [z]; exact bel_kid (by omega) (bel_self _))⟩
  rcases hnx : nx fld t (decide (stp 4 q < most)) (cnt t - cur) cur with _ | c
  · rw [hnx] at pre
    have q134 := @b142_134 l X d (mm_set I1 32 q (-2)) J (nI q) (nI t) (nI (cnt t)) (nI (ofl fld t cur)) mc ms
    rw [e26, h21, nI_pred] at q134
    refine ⟨_, pre (b142_124 (ix_in ht (by omega)) (fun z => absurd z ?_) (fun _ => q134)), HT.isH ?_ ?_ (fun z => absurd z (by decide)), fun r hr => ?_, fun i hi => ?_, fun j hj => ?_, fun _ => by simp [mm_set], fun c hc => by simp at hc, fun x hx => ?_, fun x hx => ?_⟩
    · rw [ix_cl (by omega), (hT2.1 t ht).1]
      exact nI_nlt (a := cnt t) (b := cnt t) (Nat.le_refl _) (by omega)
    · rw [mm_set_ne (by decide), e33]; exact h33
    · rw [mm_set_ne (by decide)]; exact e32q
    · simp only [List.mem_cons, List.not_mem_nil, or_false, not_or] at hr
      rw [mm_set_ne hr.1, eoth r hr.2.1]
    · have : (mm_set (mm_set I1 32 q (-2)) 26 21 (nI m)) 26 i = (mm_set I1 32 q (-2)) 26 i := by simp [mm_set, hi]
      rw [this, e26]
    · rw [mm_set_ne (by decide), e44]
    · obtain ⟨z1, z2⟩ := hout x hx
      refine ⟨?_, ?_⟩
      · rw [mm_set_ne (show (32 : Nat) ≠ 26 by decide), e32 x z1]; exact z2
      · rw [mm_set_ne (show (33 : Nat) ≠ 26 by decide), e33]
    · rw [mm_set_ne (by decide)] at hx
      by_cases z : x = q
      · exact Or.inl ⟨z, rfl⟩
      · rw [e32 x z] at hx
        obtain ⟨w1, w2⟩ := hm1 x hx
        exact Or.inr (Or.inr ⟨w1, z, w2⟩)
  · rw [hnx] at pre
    obtain ⟨n1, n2, n3⟩ := nx_ok _ _ hnx
    have hcc : c < cnt t := by omega
    have hf := hT.tw.form ht hcc
    have h3 := hT.tw.2.1 _ hf
    have hpos : 0 < fld (4 * t + c) → stp 4 q < most := fun z => by
      rcases n3 with e | e
      · simpa using e
      · omega
    have hq64 : 0 < fld (4 * t + c) → q < 64 := fun z => Nat.lt_of_lt_of_le p3 (Nat.pow_le_pow_right (n := 4) (by decide) (show stp 4 q ≤ 3 by have := hpos z; omega))
    have hT3 : TV (mm_set (mm_set (mm_set I1 32 q (-2)) 44 m (nI c)) 32 q (nI c)) 27 28 29 cnt fld fty := hT2.of (by rw [mm_set_ne (by decide), mm_set_ne (by decide)]) (by rw [mm_set_ne (by decide), mm_set_ne (by decide)]) (by rw [mm_set_ne (by decide), mm_set_ne (by decide)])
    obtain ⟨I', rr, g1, g2, g3⟩ := @c142_k l X d J mc ms cnt fld fty t q c ht hf h3 hq64 (fld (4 * t + c)) 0 (mm_set (mm_set (mm_set I1 32 q (-2)) 44 m (nI c)) 32 q (nI c)) (by omega) hT3
    rw [nI_0] at rr
    have q146 := @b142_146 l X d (mm_set I1 32 q (-2)) J (nI q) (nI t) (nI c) (nI (ofl fld t cur)) mc ms (.inl (some (.int 1))) (mm_Λ, I', J)
    rw [e26, h21, nI_pred, ix_cl (by omega), ix_cl (by omega)] at q146
    have hk32 : ∀ x, x ≠ q → (mm_set (mm_set (mm_set I1 32 q (-2)) 44 m (nI c)) 32 q (nI c)) 32 x = I1 32 x := fun x hx => by simp [mm_set, hx]
    have hk33 : (mm_set (mm_set (mm_set I1 32 q (-2)) 44 m (nI c)) 32 q (nI c)) 33 = I 33 := by rw [mm_set_ne (by decide), mm_set_ne (by decide), e33]
    have hqq := g2 q fun j _ _ => by omega
    refine ⟨I', pre (b142_124 (ix_in ht (by omega)) (fun _ => q146 (ix_in (by omega) (by omega)) (ix_in hq6 (by omega)) rr) (fun z => absurd ?_ z)), HT.isN hcc (fun z => by have := hpos z; omega) ?_ ?_ (fun z => absurd z (by decide)) (fun k hk => ⟨(g3 k (Nat.zero_le _) hk).2, (g3 k (Nat.zero_le _) hk).1, fun z => absurd z (by decide)⟩), fun r hr => ?_, fun i hi => ?_, fun j hj => ?_, fun z => by simp at z, fun c' hc' => ?_, fun x hx => ?_, fun x hx => ?_⟩
    · rw [ix_cl (by omega), (hT2.1 t ht).1]
      exact nI_lt hcc (by omega)
    · rw [hqq.2, hk33]; exact h33
    · rw [hqq.1]; simp [mm_set]
    · simp only [List.mem_cons, List.not_mem_nil, or_false, not_or] at hr
      rw [g1 r hr.2.1 hr.2.2.1, mm_set_ne hr.2.1, mm_set_ne hr.2.2.2, eoth r hr.2.1]
    · rw [g1 26 (by decide) (by decide), mm_set_ne (by decide), mm_set_ne (by decide), e26]
    · have : j ≠ m := by omega
      rw [g1 44 (by decide) (by decide), mm_set_ne (by decide), mm_set_eq]
      dsimp only
      rw [if_neg this, e44]
    · have := Option.some.inj hc'
      subst this
      refine ⟨?_, ?_⟩
      · rw [g1 26 (by decide) (by decide), mm_set_ne (by decide), mm_set_ne (by decide), e26]; exact h21
      · rw [g1 44 (by decide) (by decide), mm_set_ne (by decide), mm_set_eq]
        dsimp only
        rw [if_pos rfl]
    · obtain ⟨z1, z2⟩ := hout x hx
      obtain ⟨w1, w2⟩ := g2 x fun j _ hj z => hx (by rw [z]; exact bel_kid (by omega) (bel_self _))
      rw [w1, w2, hk33, hk32 x z1]
      exact ⟨z2, rfl⟩
    · by_cases hk : ∃ k, k < fld (4 * t + c) ∧ x = 4 * q + k + 1
      · obtain ⟨k, hk1, hk2⟩ := hk
        exact Or.inr (Or.inl ⟨c, k, rfl, hk1, hk2⟩)
      · obtain ⟨w1, w2⟩ := g2 x fun j _ hj z => hk ⟨j, hj, z⟩
        by_cases z : x = q
        · rw [w1, z] at hx
          have : (mm_set (mm_set (mm_set I1 32 q (-2)) 44 m (nI c)) 32 q (nI c)) 32 q = nI c := by simp [mm_set]
          rw [this] at hx
          exact absurd hx (nI_ne2 (by omega))
        · rw [w1, hk32 x z] at hx
          obtain ⟨y1, y2⟩ := hm1 x hx
          exact Or.inr (Or.inr ⟨y1, z, y2⟩)
end FILL2
