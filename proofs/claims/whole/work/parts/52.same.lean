def svl (fld fty : Nat → Nat) (n : Nat) (τ : TR) (t p q : Nat) : Nat :=
  if 1 < (wk fld fty p (stp 4 p) τ t).1 then (wk fld fty p (stp 4 p) τ t).1 else if 1 < (wk fld fty q (stp 4 q) τ t).1 then (wk fld fty q (stp 4 q) τ t).1 else
    if (wk fld fty p (stp 4 p) τ t).1 = 0 ∨ (wk fld fty q (stp 4 q) τ t).1 = 0 then (if (wk fld fty p (stp 4 p) τ t).1 = (wk fld fty q (stp 4 q) τ t).1 then 1 else 0) else
      cm fld fty (n - stp 4 p) (wk fld fty p (stp 4 p) τ t).2.1 (wk fld fty q (stp 4 q) τ t).2.1 (wk fld fty p (stp 4 p) τ t).2.2 (wk fld fty q (stp 4 q) τ t).2.2 p q
section SAME
variable {l : Launch} {X : Nat × (Nat → Int32)} {d : Nat} {I I' : Nat → Nat → Int32} {J J' : Nat → Nat → Int64} {mc ms : Nat} {cnt fld fty : Nat → Nat} {p q t t1 t2 c n n1 n2 s : Nat} {b : Bool} {T A N : Nat → Int32} {τ τ1 τ2 : TR}
theorem pz_lt (hp : isPb p = true) (h1 : stp 4 p ≤ n) (hn : n ≤ 4) : p < 4 ^ (4 - (n - stp 4 p)) := by
  obtain ⟨f1, f2, f3, f4, f5⟩ := pz_facts p (isPb_lt hp) hp
  exact Nat.lt_of_lt_of_le f3 (Nat.pow_le_pow_right (n := 4) (by decide) (by omega))
/-- isAlike -/
theorem c86 (hW : TW cnt fld fty) (hp : isPb p = true) (hq : isPb q = true) (hn : n ≤ 4) (ht : t < 6) (h : HT true cnt fld fty (I 14) (I 15) (I 16) n τ t 0) :
    mm_Call l X 86 (d + 6) [.ref 13, .int (nI p), .int (nI q)] (mm_Λ, I, J) mc ms (.inl (some (.int (cdA (svl fld fty n τ t p q))))) (mm_Λ, I, J) := by
  have hp6 := isPb_lt hp
  have hq6 := isPb_lt hq
  have r1 := @c84 l X (d + 4) I J 0 0 cnt fld fty p t n τ hW hp ht h
  have r2 := @c84 l X (d + 4) I J 0 0 cnt fld fty q t n τ hW hq ht h
  obtain ⟨a1, a2⟩ := wk_code hW hp ht h
  obtain ⟨b1, b2⟩ := wk_code hW hq ht h
  have sec : ∀ u : Nat, u < 2 → (1 < (wk fld fty q (stp 4 q) τ t).1 → (wk fld fty q (stp 4 q) τ t).1 = svl fld fty n τ t p q) →
      (∀ v : Nat, v < 2 → (wk fld fty q (stp 4 q) τ t).1 = v → mm_Run l X 86 (d + 6) 40 [.ref 13, .int (nI p), .int (nI q), .int (gA p u), .int (gA q v)] [] (mm_Λ, I, J) mc ms (.inl (some (.int (cdA (svl fld fty n τ t p q))))) (mm_Λ, I, J)) →
      mm_Run l X 86 (d + 6) 18 [.ref 13, .int (nI p), .int (nI q), .int (gA p u), .null] [] (mm_Λ, I, J) mc ms (.inl (some (.int (cdA (svl fld fty n τ t p q))))) (mm_Λ, I, J) := by
    intro u hu h1 h2
    refine b86_18 r2 ?_
    rcases hw : (wk fld fty q (stp 4 q) τ t).1 with _ | _ | r
    · exact b86_23 (fun z => absurd z.symm (nI_ne1 (by omega))) (fun _ => b86_31 (fun _ => h2 0 (by omega) hw) (fun z => absurd rfl z))
    · exact b86_23 (fun _ => h2 1 (by omega) hw) (fun z => absurd rfl z)
    · have hr := b1 r hw
      have e := h1 (by omega)
      rw [hw] at e
      rw [← e]
      exact b86_23 (fun z => absurd ((nI_eq (by omega) (by omega)).mp z) (by omega)) (fun _ => b86_31 (fun z => absurd z (nI_ne1 (by omega))) (fun _ => b86_37))
  refine b86_0 r1 ?_
  rcases hw : (wk fld fty p (stp 4 p) τ t).1 with _ | _ | r
  · refine b86_5 (fun z => absurd z.symm (nI_ne1 (by omega))) (fun _ => b86_11 (fun _ => sec 0 (by omega) (fun z => ?_) (fun v hv hv' => ?_)) (fun z => absurd rfl z))
    · unfold svl
      rw [hw, if_neg (by omega), if_pos z]
    · refine b86_40 (fun _ => ?_) (fun z => absurd rfl z)
      unfold svl
      rw [hw, hv', if_neg (by omega), if_neg (by omega), if_pos (Or.inl rfl)]
      match v, hv with
      | 0, _ => exact b86_51 (fun z => absurd rfl z) (fun _ => b86_57 b86_63)
      | 1, _ => exact b86_51 (fun _ => b86_61 b86_63) (fun z => absurd (fun w => absurd w.symm (nI_ne1 (by omega))) z)
  · refine b86_5 (fun _ => sec 1 (by omega) (fun z => ?_) (fun v hv hv' => ?_)) (fun z => absurd rfl z)
    · unfold svl
      rw [hw, if_neg (by omega), if_pos z]
    · refine b86_40 (fun z => absurd z (nI_ne1 (by omega))) (fun _ => ?_)
      unfold svl
      rw [hw, hv', if_neg (by omega), if_neg (by omega)]
      match v, hv with
      | 0, _ =>
        rw [if_pos (Or.inr rfl)]
        exact b86_45 (fun z => absurd rfl z) (fun _ => b86_51 (fun _ => b86_61 b86_63) (fun z => absurd (fun w => absurd w (nI_ne1 (by omega))) z))
      | 1, _ =>
        rw [if_neg (by omega)]
        obtain ⟨m1, k6, kH⟩ := a2 hw
        obtain ⟨m2, k6', kH'⟩ := b2 hv'
        have r := @c87 l X (d + 4 - (n - stp 4 p)) I J 0 0 cnt fld fty hW (n - stp 4 p) (n - stp 4 q) 0 p q _ _ _ _ (by omega) (by omega) (pz_lt hp m1 hn) (pz_lt hq m2 hn) k6 k6' kH kH'
        rw [show d + 4 - (n - stp 4 p) + (n - stp 4 p) + 1 = d + 5 by omega] at r
        rw [nI_0] at r
        exact b86_45 (fun _ => b86_64 r b86_71) (fun z => absurd (nI_ne1 (by omega)) z)
  · have hr := a1 r hw
    have e : svl fld fty n τ t p q = r + 2 := by
      unfold svl
      rw [hw, if_pos (by omega)]
    rw [e]
    exact b86_5 (fun z => absurd ((nI_eq (by omega) (by omega)).mp z) (by omega)) (fun _ => b86_11 (fun z => absurd z (nI_ne1 (by omega))) (fun _ => b86_16))
/-! evaluateSame of the reference -/
theorem v137_push {x1 x2 x3 x4 x7 : Int32} : ∀ (kk s : Nat) (I : Nat → Nat → Int32) (J : Nat → Nat → Int64), I 26 10 = nI s → s + kk ≤ 512 →
    ∃ I' J', (∀ {mc ms : Nat} {o : mm_O} {σ' : mm_S}, mm_Run l X 137 (d + 1) 62 [.ref 26, .int x1, .int x2, .int x3, .int x4, .null, .null, .null, .null] [] (mm_Λ, I', J') mc ms o σ' → mm_Run l X 137 (d + 1) 223 [.ref 26, .int x1, .int x2, .int x3, .int x4, .int (nI p), .int (nI q), .int x7, .int (kx kk)] [] (mm_Λ, I, J) mc ms o σ') ∧ I' 26 10 = nI (s + kk) ∧ (∀ j, j < kk → I' 35 (s + (kk - 1 - j)) = nI (4 * p + j + 1) ∧ I' 36 (s + (kk - 1 - j)) = nI (4 * q + j + 1)) ∧ SF [] [] s I I' J J'
  | 0, s, I, J, h10, hs => ⟨I, J, fun rr => b137_223 (fun _ => b137_257 rr) (fun q => absurd (by decide) q), h10, fun j hj => by omega, SF.refl⟩
  | kk + 1, s, I, J, h10, hs => by
    obtain ⟨I', J', st, g1, g2, g3⟩ := v137_push (x1 := x1) (x2 := x2) (x3 := x3) (x4 := x4) (x7 := x7) kk (s + 1) (mm_set (mm_set (mm_set I 35 s (nI (4 * p + kk + 1))) 36 s (nI (4 * q + kk + 1))) 26 10 (nI (s + 1))) (mm_set J 37 s 0) (by simp [mm_set]) (by omega)
    refine ⟨I', J', fun rr => b137_223 (fun q => absurd q (nI_pos (by omega))) (fun _ => b137_228 (I1 := mm_set (mm_set (mm_set I 35 s (nI (4 * p + kk + 1))) 36 s (nI (4 * q + kk + 1))) 26 10 (nI (s + 1))) (J1 := mm_set J 37 s 0) ?_ (b137_251 ?_)), by rw [g1]; congr 1; omega, fun j hj => ?_, SF.push.trans g3 (by omega)⟩
    · show mm_Call l X 119 d [.ref 26, .int (4 * nI p + nI kk + 1), .int (4 * nI q + nI kk + 1), .long 0] _ 0 0 _ _
      rw [jx4, jx4, nI_1, nI_1]
      exact c119 (by omega) h10
    · show mm_Run l X 137 (d + 1) 223 [.ref 26, .int x1, .int x2, .int x3, .int x4, .int (nI p), .int (nI q), .int x7, .int (nI kk + (-1))] [] _ _ _ _ _
      rw [kx_dec]
      exact st rr
    · by_cases e : j = kk
      · subst e
        obtain ⟨z1, z2, -⟩ := g3.1 s (by omega)
        rw [show s + (j + 1 - 1 - j) = s by omega, z1, z2]
        simp [mm_set]
      · rw [show s + (kk + 1 - 1 - j) = s + 1 + (kk - 1 - j) by omega]
        exact g2 j (by omega)
/-- one pair: answered at once, or on to the fields -/
theorem v137_head {x1 x2 x3 x4 : Int32} (hT : TV I 27 28 29 cnt fld fty) (ht1 : t1 < 6) (ht2 : t2 < 6) (hp : p < 256) (hq : q < 256) (h1 : HT false cnt fld fty (I 33) (I 32) (I 32) n1 τ1 t1 p) (h2 : HT false cnt fld fty (I 33) (I 32) (I 32) n2 τ2 t2 q) (h10 : I 26 10 = nI (s + 1)) (hs : s < 500) (h35 : I 35 s = nI p) (h36 : I 36 s = nI q) :
    (∀ w, w = (if τ1 [] = 0 then p + 2 else if τ2 [] = 0 then q + 2 else 0) → (τ1 [] = 0 ∨ τ2 [] = 0 ∨ ¬ (τ1 [] = τ2 [] ∧ fl fld τ1 t1 = fl fld τ2 t2)) → ∀ {mc ms : Nat}, mm_Run l X 137 (d + 1) 62 [.ref 26, .int x1, .int x2, .int x3, .int x4, .null, .null, .null, .null] [] (mm_Λ, I, J) mc ms (.inl (some (.int (nI w)))) (mm_Λ, mm_set I 26 10 (nI s), J)) ∧
    (¬ τ1 [] = 0 → ¬ τ2 [] = 0 → (τ1 [] = τ2 [] ∧ fl fld τ1 t1 = fl fld τ2 t2) → ∀ {mc ms : Nat} {o : mm_O} {σ' : mm_S}, mm_Run l X 137 (d + 1) 223 [.ref 26, .int x1, .int x2, .int x3, .int x4, .int (nI p), .int (nI q), .int (nI (fl fld τ1 t1)), .int (kx (fl fld τ1 t1))] [] (mm_Λ, mm_set I 26 10 (nI s), J) mc ms o σ' → mm_Run l X 137 (d + 1) 62 [.ref 26, .int x1, .int x2, .int x3, .int x4, .null, .null, .null, .null] [] (mm_Λ, I, J) mc ms o σ') := by
  have hW := hT.tw
  obtain ⟨a1, a2, -, a4, -⟩ := h1.u hW ht1
  obtain ⟨b1, b2, -, b4, -⟩ := h2.u hW ht2
  have k32 : (mm_set I 26 10 (nI s)) 32 = I 32 := mm_set_ne (by decide)
  have k33 : (mm_set I 26 10 (nI s)) 33 = I 33 := mm_set_ne (by decide)
  have k28 : (mm_set I 26 10 (nI s)) 28 = I 28 := mm_set_ne (by decide)
  have q69 := fun {mc ms : Nat} {o : mm_O} {σ' : mm_S} => @b137_69 l X d I J x1 x2 x3 x4 mc ms o σ'
  rw [h10, nI_pred, ix_cl (by omega), h35, h36, ix_cl (by omega), a2] at q69
  have hx : ∀ u : Nat, (2 : Int32) + nI u = nI (u + 2) := fun u => by rw [show (2 : Int32) = nI 2 from rfl, nI_add, Nat.add_comm 2]
  have q145 := fun {mc ms : Nat} (u : Nat) => @b137_145 l X d (mm_set I 26 10 (nI s)) J x1 x2 x3 x4 (nI p) (nI q) (nI u) 2 mc ms
  have pre : ∀ {mc ms : Nat} {o : mm_O} {σ' : mm_S}, ¬ τ1 [] = 0 → ¬ τ2 [] = 0 → ((¬ (τ1 [] = τ2 [] ∧ fl fld τ1 t1 = fl fld τ2 t2)) → mm_Run l X 137 (d + 1) 215 [.ref 26, .int x1, .int x2, .int x3, .int x4, .int (nI p), .int (nI q), .int (nI (fl fld τ1 t1)), .null] [] (mm_Λ, mm_set I 26 10 (nI s), J) mc ms o σ') → ((τ1 [] = τ2 [] ∧ fl fld τ1 t1 = fl fld τ2 t2) → mm_Run l X 137 (d + 1) 217 [.ref 26, .int x1, .int x2, .int x3, .int x4, .int (nI p), .int (nI q), .int (nI (fl fld τ1 t1)), .null] [] (mm_Λ, mm_set I 26 10 (nI s), J) mc ms o σ') → mm_Run l X 137 (d + 1) 62 [.ref 26, .int x1, .int x2, .int x3, .int x4, .null, .null, .null, .null] [] (mm_Λ, I, J) mc ms o σ' := by
    intro mc ms o σ' n01 n02 r215 r217
    obtain ⟨c1, hc1⟩ : ∃ c, τ1 [] = c + 1 := ⟨τ1 [] - 1, by omega⟩
    obtain ⟨c2, hc2⟩ : ∃ c, τ2 [] = c + 1 := ⟨τ2 [] - 1, by omega⟩
    have s1 := h1.small hW ht1 hc1
    have s2 := h2.small hW ht2 hc2
    have hf1 := hW.form ht1 (h1.hd.2.2 c1 hc1).1
    have hf2 := hW.form ht2 (h2.hd.2.2 c2 hc2).1
    have e1 : fld (4 * t1 + c1) = fl fld τ1 t1 := by rw [fl, hc1]
    have e2 : fld (4 * t2 + c2) = fl fld τ2 t2 := by rw [fl, hc2]
    have q147 := @b137_147 l X d (mm_set I 26 10 (nI s)) J x1 x2 x3 x4 (nI p) (nI q) mc ms o σ'
    rw [k32, k33, k28, ix_cl (by omega), ix_cl (by omega), a1, a2, b2, cod_node hc1, cod_node hc2, jx4, ix_cl (by omega), (hT.2.1 _ hf1).1, e1] at q147
    have q188 := @b137_188 l X d (mm_set I 26 10 (nI s)) J x1 x2 x3 x4 (nI p) (nI q) (nI (fl fld τ1 t1)) mc ms o σ'
    rw [k32, k33, k28, ix_cl (by omega), b1, b2, cod_node hc2, jx4, ix_cl (by omega), (hT.2.1 _ hf2).1, e2] at q188
    have iq := ix_in (N := 256) hq (by omega)
    have ip := ix_in (N := 256) hp (by omega)
    refine b137_62 (fun z => absurd z (by rw [h10]; exact nI_nle (by omega) (by omega))) (fun _ => q69 (ix_in (by omega) (by omega)) (ix_in (by omega) (by omega)) ip (fun z => absurd z (h1.cod_ne hW ht1 n01)) (fun _ => b137_113 iq (fun _ => q147 ip ip (ix_in hf1 (by omega)) ip iq (fun z => r215 fun w => z (by have := w.1; rw [hc1, hc2] at this; congr 1; omega)) (fun z => q188 iq iq (ix_in hf2 (by omega)) (fun z1 => r217 ⟨?_, (nI_eq (by omega) (by omega)).mp z1⟩) (fun z1 => r215 fun w => z1 (by rw [w.2])))) (fun z => absurd ?_ z)))
    · have := (nI_eq (by omega) (by omega)).mp (Decidable.not_not.mp z)
      rw [hc1, hc2, this]
    · rw [ix_cl (by omega), k32, b2]
      exact h2.cod_ne hW ht2 n02
  refine ⟨fun w hw hcase {mc ms} => ?_, fun n01 n02 heq {mc ms o σ'} rr => pre n01 n02 (fun z => absurd heq z) (fun _ => b137_217 ?_)⟩
  · subst hw
    by_cases n01 : τ1 [] = 0
    · rw [if_pos n01]
      have q := q145 (mc := mc) (ms := ms) p
      rw [hx] at q
      refine b137_62 (fun z => absurd z (by rw [h10]; exact nI_nle (by omega) (by omega))) (fun _ => q69 (ix_in (by omega) (by omega)) (ix_in (by omega) (by omega)) (ix_in hp (by omega)) (fun _ => b137_125 (ix_in hp (by omega)) (fun z => absurd ?_ z) (fun _ => b137_138 q)) (fun z => absurd (cod_hole n01) z))
      rw [ix_cl (by omega), k32, a2]
      exact cod_hole n01
    · rw [if_neg n01]
      by_cases n02 : τ2 [] = 0
      · rw [if_pos n02]
        have q := q145 (mc := mc) (ms := ms) q
        rw [hx] at q
        refine b137_62 (fun z => absurd z (by rw [h10]; exact nI_nle (by omega) (by omega))) (fun _ => q69 (ix_in (by omega) (by omega)) (ix_in (by omega) (by omega)) (ix_in hp (by omega)) (fun z => absurd z (h1.cod_ne hW ht1 n01)) (fun _ => b137_113 (ix_in hq (by omega)) (fun z => absurd ?_ z) (fun _ => b137_125 (ix_in hp (by omega)) (fun _ => b137_143 q) (fun z => absurd ?_ z))))
        · rw [ix_cl (by omega), k32, b2]
          exact cod_hole n02
        · rw [ix_cl (by omega), k32, a2]
          exact h1.cod_ne hW ht1 n01
      · rw [if_neg n02]
        exact pre n01 n02 (fun _ => b137_215) (fun z => absurd z (by rcases hcase with w | w | w; exact absurd w n01; exact absurd w n02; exact w))
  · rw [Int32.sub_eq_add_neg, kx_dec]
    exact rr
end SAME
