/-! ===== refine of the reference ===== -/
section LV
variable {b : Bool} {cnt fld fty : Nat → Nat} {T A N : Nat → Int32} {most t q : Nat} {L L' : List (Nat × Nat)}
theorem lv_self (fld fty : Nat → Nat) : ∀ (n : Nat) (τ : TR) (t p : Nat), lv fld fty n τ t p p
  | 0, _, _, _ => rfl
  | _ + 1, _, _, _ => Or.inl rfl
theorem lv_hol : ∀ (n t p : Nat) {x : Nat}, lv fld fty n hol t p x → x = p
  | 0, _, _, _, h => h
  | n + 1, t, p, x, h => by
    rcases h with h | ⟨k, hk, -⟩
    · exact h
    · exact absurd (show k < 0 from hk) (by omega)
theorem lv_hd : ∀ (c n t p : Nat) {x : Nat}, lv fld fty n (hdT c) t p x → x = p ∨ ∃ k, k < ofl fld t c ∧ x = 4 * p + k + 1
  | 0, n, t, p, x, h => Or.inl (lv_hol n t p h)
  | c + 1, 0, t, p, x, h => Or.inl h
  | c + 1, n + 1, t, p, x, h => by
    rcases h with h | ⟨k, hk, h⟩
    · exact Or.inl h
    · exact Or.inr ⟨k, hk, lv_hol (fld := fld) (fty := fty) n _ _ h⟩
theorem lv_kid {c n k : Nat} (hn : 0 < n) (hk : k < fld (4 * t + c)) : lv fld fty n (hdT (c + 1)) t q (4 * q + k + 1) := by
  obtain ⟨n', rfl⟩ : ∃ n', n = n' + 1 := ⟨n - 1, by omega⟩
  exact Or.inr ⟨k, hk, lv_self fld fty _ _ _ _⟩
/-- a place has a type, and is not too deep -/
theorem plc_at (hW : TW cnt fld fty) : ∀ (n t p : Nat) (τ : TR) {x : Nat}, n ≤ 4 → p < 4 ^ (4 - n) → t < 6 → HT b cnt fld fty T A N n τ t p → lv fld fty n τ t p x → ∃ t', t' < 6 ∧ T x = nI t' ∧ bst 16 x ≤ bst 16 p + n
  | 0, t, p, τ, x, hn, hp, ht, h, hx => by
    rw [show x = p from hx]
    exact ⟨t, ht, (h.u hW ht).1, by omega⟩
  | n + 1, t, p, τ, x, hn, hp, ht, h, hx => by
    obtain ⟨h1, -, -, h4, h5⟩ := h.u hW ht
    rcases hx with hx | ⟨k, hk, hx⟩
    · rw [hx]
      exact ⟨t, ht, h1, by omega⟩
    · obtain ⟨-, k6, kH⟩ := h5 k hk
      have hp64 : p < 64 := Nat.lt_of_lt_of_le hp (Nat.pow_le_pow_right (n := 4) (by decide) (show 4 - (n + 1) ≤ 3 by omega))
      obtain ⟨t', a1, a2, a3⟩ := plc_at hW n _ _ _ (by omega) (pw4k hn (by omega) hp) k6 kH hx
      rw [bst_kid p hp64 k (by omega)] at a3
      exact ⟨t', a1, a2, by omega⟩
/-- every hole of the row is a place of the tree, after another constructor was put there -/
theorem nh_put {A' : Nat → Int32} {x0 : Nat × Nat} {c' : Nat} {o : Option Nat} (hW : TW cnt fld fty) (ht : t < 6) (hG : GS cnt fld fty most t (x0 :: L)) (hH : HT b cnt fld fty T A N most (trs (x0 :: L)) t 0)
    (hN : ∀ x, x < 256 → A x = -2 → lv fld fty most (trs (x0 :: L)) t 0 x) (h0 : o = none → c' = 0) (h1 : ∀ c, o = some c → c' = c + 1 ∧ (0 < fld (4 * tyS fld fty t L x0.1 + c) → stp 4 x0.1 < most))
    (hA : ∀ x, A' x = -2 → (x = x0.1 ∧ o = none) ∨ (∃ c k, o = some c ∧ k < fld (4 * tyS fld fty t L x0.1 + c) ∧ x = 4 * x0.1 + k + 1) ∨ (A x = -2 ∧ x ≠ x0.1 ∧ ∀ k, k < ofl fld (tyS fld fty t L x0.1) x0.2 → x ≠ 4 * x0.1 + k + 1)) :
    ∀ x, x < 256 → A' x = -2 → lv fld fty most (trs ((x0.1, c') :: L)) t 0 x := by
  intro x hx hAx
  obtain ⟨f1, f2, f3, f4, f5⟩ := pz_facts x0.1 (isPb_lt hG.2.2.1) hG.2.2.1
  obtain ⟨e, -⟩ := trs_top hW ht hG hH
  have key : ∀ c, lv fld fty most (trs ((x0.1, c) :: L)) t 0 x ↔ (lv fld fty most (trs (x0 :: L)) t 0 x ∧ ¬ bel x0.1 x) ∨ lv fld fty (most - stp 4 x0.1) (hdT c) (tyS fld fty t L x0.1) x0.1 x := fun c => by
    have h := lv_pt (b := b) (T := T) (A := A) (N := N) (p := x0.1) (σ := hdT c) hW (x := x) (stp 4 x0.1) most t (trs (x0 :: L)) ht f4 (by rw [f5]; exact hH) (by rw [e])
    have e2 : pt x0.1 (hdT c) (stp 4 x0.1) (trs (x0 :: L)) = trs ((x0.1, c) :: L) := pt_pt _ _
    rw [f5, e, e2] at h
    exact h
  rw [key c']
  rcases hA x hAx with ⟨w1, w2⟩ | ⟨c, k, w1, w2, w3⟩ | ⟨w1, w2, w3⟩
  · rw [w1]; exact Or.inr (lv_self fld fty _ _ _ _)
  · obtain ⟨z1, z2⟩ := h1 c w1
    have := z2 (by omega)
    rw [z1, w3]
    exact Or.inr (lv_kid (by omega) w2)
  · have hl := hN x hx w1
    by_cases hb : bel x0.1 x
    · rcases (key x0.2).mp hl with ⟨-, z⟩ | z
      · exact absurd hb z
      · rcases lv_hd x0.2 _ _ _ z with y | ⟨k, y1, y2⟩
        · exact absurd y w2
        · exact absurd y2 (w3 k y1)
    · exact Or.inl ⟨hl, hb⟩
end LV
section REFM
variable {l : Launch} {X : Nat × (Nat → Int32)} {d : Nat} {I I' : Nat → Nat → Int32} {J J' : Nat → Nat → Int64} {mc ms : Nat} {cnt fld fty : Nat → Nat} {t e n h most : Nat} {kd fa fb ly : Nat → Nat} {x y k : Int32}
/-- goOn -/
theorem c141_loop (hm : most ≤ 4) (ht : t < 6) : ∀ (L : List (Nat × Nat)) (I : Nat → Nat → Int32), L.length ≤ 121 → GS cnt fld fty most t L → TV I 27 28 29 cnt fld fty → I 26 24 = nI most → HT false cnt fld fty (I 33) (I 32) (I 32) most (trs L) t 0 → (∀ x, x < 256 → I 32 x = -2 → lv fld fty most (trs L) t 0 x) → I 26 21 = nI L.length → SKm (I 43) (I 44) L →
    ∃ I', mm_Run l X 141 (d + 2) 0 [.ref 26] [] (mm_Λ, I, J) mc ms (.inl (some (.int (adA (adS cnt fld fty most t L))))) (mm_Λ, I', J) ∧ (∀ r, r ∉ [26, 32, 33, 44] → I' r = I r) ∧ (∀ i, i ≠ 21 → I' 26 i = I 26 i) ∧ ∀ L', adS cnt fld fty most t L = some L' → HT false cnt fld fty (I' 33) (I' 32) (I' 32) most (trs L') t 0 ∧ (∀ x, x < 256 → I' 32 x = -2 → lv fld fty most (trs L') t 0 x) ∧ I' 26 21 = nI L'.length ∧ SKm (I' 43) (I' 44) L'
  | [], I, hl, hG, hT, h24, hH, hN, h3, hS => by
    refine ⟨I, b141_0 (fun _ => b141_16) (fun z => absurd (by rw [h3]; decide) z), fun _ _ => rfl, fun _ _ => rfl, fun L' e => by simp [adS] at e⟩
  | x :: L, I, hl, hG, hT, h24, hH, hN, h3, hS => by
    rw [List.length_cons] at hl h3
    obtain ⟨g1, g2, g3, g4, g5, g6, g7, g8⟩ := id hG
    obtain ⟨p1, p2, p3, p4, p5⟩ := pz_facts x.1 (isPb_lt g3) g3
    obtain ⟨e1, s1, k6, kH⟩ := trs_top hT.tw ht hG hH
    obtain ⟨u1, u2, -⟩ := kH.u hT.tw k6
    obtain ⟨I1, r1, hN1, a1, a2, a3, a4, a5, a6, a7⟩ := @c142 l X d I J 0 0 cnt fld fty (tyS fld fty t L x.1) x.1 most L.length x.2 hT k6 g3 hm h24 (by omega) h3 hS.1 hS.2.1 u1 g6 (fun z => Nat.lt_of_lt_of_le p3 (Nat.pow_le_pow_right (n := 4) (by decide) (show stp 4 x.1 ≤ 3 by have := g7 z; omega)))
    have q7 : ∀ {o : mm_O} {σ' : mm_S}, mm_Run l X 141 (d + 2) 11 [.ref 26] [.int (nxA (nx fld (tyS fld fty t L x.1) (decide (stp 4 x.1 < most)) (cnt (tyS fld fty t L x.1) - x.2) x.2))] (mm_Λ, I1, J) mc ms o σ' → mm_Run l X 141 (d + 2) 0 [.ref 26] [] (mm_Λ, I, J) mc ms o σ' := fun rr =>
      b141_0 (fun z => absurd z (by rw [h3]; exact nI_nle (by omega) (by omega))) (fun _ => b141_7 r1 rr)
    have hput : ∀ c, nxT (nx fld (tyS fld fty t L x.1) (decide (stp 4 x.1 < most)) (cnt (tyS fld fty t L x.1) - x.2) x.2) = hdT c → HT false cnt fld fty (I1 33) (I1 32) (I1 32) most (trs ((x.1, c) :: L)) t 0 := fun c hc => by
      rw [hc] at hN1
      exact trs_put hT.tw ht hG hH (fun q hq => ⟨(a6 q hq).2, (a6 q hq).1, (a6 q hq).1⟩) hN1
    have hSL : SKm (I1 43) (I1 44) L := hS.2.2.of L fun j hj => ⟨by rw [a1 43 (by decide)], a3 j hj⟩
    rcases hnx : nx fld (tyS fld fty t L x.1) (decide (stp 4 x.1 < most)) (cnt (tyS fld fty t L x.1) - x.2) x.2 with _ | c
    · have hNH := nh_put (c' := 0) (o := none) hT.tw ht hG hH hN (fun _ => rfl) (fun c z => by simp at z) (by rw [hnx] at a7; exact a7)
      have h21 := a4 hnx
      rw [hnx] at q7 hput
      have eA : adS cnt fld fty most t (x :: L) = adS cnt fld fty most t L := by rw [adS, hnx]
      have hH0 := hput 0 rfl
      have e0 : trs ((x.1, 0) :: L) = trs L := trs_new g1 g4 g5
      rw [e0] at hH0 hNH
      obtain ⟨I', rr, f1, f2, f3⟩ := c141_loop hm ht L I1 (by omega) g1 (hT.of (a1 27 (by decide)) (a1 28 (by decide)) (a1 29 (by decide))) (by rw [a2 24 (by decide)]; exact h24) hH0 hNH h21 hSL
      rw [eA]
      exact ⟨I', q7 (b141_11 (fun _ => rr) (fun z => absurd rfl z)), fun r hr => by rw [f1 r hr, a1 r hr], fun i hi => by rw [f2 i hi, a2 i hi], f3⟩
    · obtain ⟨n1, n2, n3⟩ := nx_ok _ _ hnx
      have hNH := nh_put (c' := c + 1) (o := some c) hT.tw ht hG hH hN (fun z => by simp at z) (fun c1 z => by
        have := Option.some.inj z
        subst this
        refine ⟨rfl, fun z1 => ?_⟩
        rcases n3 with w | w
        · simpa using w
        · omega) (by rw [hnx] at a7; exact a7)
      obtain ⟨z1, z2⟩ := a5 c hnx
      rw [hnx] at q7 hput
      have eA : adS cnt fld fty most t (x :: L) = some ((x.1, c + 1) :: L) := by rw [adS, hnx]
      rw [eA]
      refine ⟨I1, q7 (b141_11 (fun z => absurd z (by show ¬ (1 : Int32) = 0; decide)) (fun _ => b141_14)), a1, a2, fun L' hL' => ?_⟩
      have := Option.some.inj hL'
      subst this
      exact ⟨hput (c + 1) rfl, hNH, z1, by rw [a1 43 (by decide)]; exact hS.1, z2, hSL⟩
/-- what a turn may change -/
def FR (I I' : Nat → Nat → Int32) (J J' : Nat → Nat → Int64) : Prop := (∀ r, r ∉ [26, 32, 33, 35, 36, 41, 43, 44] → I' r = I r) ∧ (∀ i, i ∉ [10, 21, 25] → I' 26 i = I 26 i) ∧ ∀ r, r ∉ [26, 37] → J' r = J r
theorem FR.refl : FR I I J J := ⟨fun _ _ => rfl, fun _ _ => rfl, fun _ _ => rfl⟩
theorem FR.trans {I'' : Nat → Nat → Int32} {J'' : Nat → Nat → Int64} (h : FR I I' J J') (h' : FR I' I'' J' J'') : FR I I'' J J'' := ⟨fun r hr => by rw [h'.1 r hr, h.1 r hr], fun r hr => by rw [h'.2.1 r hr, h.2.1 r hr], fun r hr => by rw [h'.2.2 r hr, h.2.2 r hr]⟩
theorem FR.pm (hF : FR I I' J J') (hP : PM n h kd fa fb ly I) : PM n h kd fa fb ly I' := hP.of (hF.2.1 14 (by decide)) (hF.2.1 19 (by decide)) (hF.1 38 (by decide)) (hF.1 39 (by decide)) (hF.1 40 (by decide)) (hF.1 42 (by decide))
theorem FR.tv (hF : FR I I' J J') (hT : TV I 27 28 29 cnt fld fty) : TV I' 27 28 29 cnt fld fty := hT.of (hF.1 27 (by decide)) (hF.1 28 (by decide)) (hF.1 29 (by decide))
theorem FR.mj (hF : FR I I' J J') (hJ : MJ cnt fld fty J) : MJ cnt fld fty J' := fun a b c d => by rw [hF.2.2 30 (by decide)]; exact hJ a b c d
theorem FR.w25 {v : Int32} : FR I (mm_set I 26 25 v) J J := ⟨fun r hr => mm_set_ne (by simp only [List.mem_cons, not_or] at hr; exact hr.1), fun i hi => by simp only [List.mem_cons, List.not_mem_nil, or_false, not_or] at hi; simp [mm_set, hi.2.2], fun _ _ => rfl⟩
theorem FR.w26 {v : Int64} {i : Nat} : FR I I J (mm_set J 26 i v) := ⟨fun _ _ => rfl, fun _ _ => rfl, fun r hr => mm_set_ne (by simp only [List.mem_cons, not_or] at hr; exact hr.1)⟩
theorem SF.fr (hS : SF [41] [] 0 I I' J J') : FR I I' J J' := by
  refine ⟨fun r hr => hS.2.1 r fun z => ?_, fun i hi => hS.2.2.1 i fun z => ?_, fun r hr => hS.2.2.2 r (by simp only [List.mem_cons, List.not_mem_nil, or_false, not_or] at hr; exact hr.2)⟩
  · simp only [List.mem_cons, List.not_mem_nil, or_false, not_or] at hr z
    omega
  · simp only [List.mem_cons, List.not_mem_nil, or_false, not_or] at hi z
    omega
theorem c140S {L : List (Nat × Nat)} (hT : TV I 27 28 29 cnt fld fty) (hm : most ≤ 4) (ht : t < 6) (hJ : MJ cnt fld fty J) (h24 : I 26 24 = nI most) (hH : HT false cnt fld fty (I 33) (I 32) (I 32) most (trs L) t 0) (hN : ∀ x, x < 256 → I 32 x = -2 → lv fld fty most (trs L) t 0 x) :
    mm_Call l X 140 (d + 1) [.ref 26] (mm_Λ, I, J) mc ms (.inl (some (.long (lN (stW cnt fld fty most t L))))) (mm_Λ, I, J) := by
  have hh : ∀ q, q < 256 → I 32 q = -2 → I 33 q = nI ((I 33 q).toNatClampNeg) ∧ (I 33 q).toNatClampNeg < 6 ∧ bst 16 q ≤ most := fun q hq hA => by
    obtain ⟨t', a1, a2, a3⟩ := plc_at hT.tw most t 0 (trs L) hm (Nat.pow_pos (by decide)) ht hH (hN q hq hA)
    rw [a2, ix_cl (by omega)]
    exact ⟨rfl, a1, by rw [show bst 16 0 = 0 from rfl] at a3; omega⟩
  have r := @c140 l X d I J mc ms cnt fld fty most (fun q => (I 33 q).toNatClampNeg) hm hJ h24 hh
  rw [prod_eq hT.tw hm ht hH (fun q hq hA => ⟨(hh q hq hA).1, (hh q hq hA).2.1⟩) hN] at r
  exact r
end REFM
