/-! ===== showSized of the reference ===== -/
section SIZM
variable {l : Launch} {X : Nat × (Nat → Int32)} {d : Nat} {I I' : Nat → Nat → Int32} {J J' : Nat → Nat → Int64} {mc ms : Nat} {cnt fld fty : Nat → Nat} {t c s n : Nat} {L : List Int32}
/-- the reference's table of sizes -/
def MZ (cnt fld fty : Nat → Nat) (J : Nat → Nat → Int64) : Prop := ∀ s u, 1 ≤ s → s ≤ 12 → u < 6 → J 31 (13 * u + s) = lN (SN cnt fld fty s u)
theorem MZ.toM (h : MZ cnt fld fty J) (n : Nat) : MS cnt fld fty J n 0 J := ⟨fun _ _ => rfl, fun s t' a b c _ => h s t' a b c⟩
theorem MZ.of (h : MZ cnt fld fty J) (e : J' 31 = J 31) : MZ cnt fld fty J' := fun s u a b c => by rw [e]; exact h s u a b c
theorem v124_pick (hT : TV I 27 28 29 cnt fld fty) (ht : t < 6) (hZ : MZ cnt fld fty J) {m : Nat} {x3 : Int64} (hm : m < 12) {o : mm_O} {σ' : mm_S} : ∀ (n c r : Nat), c + n + 1 = cnt t → r < sm (fun c => wW (SN cnt fld fty) fld fty (4 * t + c) (fld (4 * t + c)) m) (n + 1) c → r < 2 ^ 62 →
    mm_Run l X 124 (d + 3) 39 [.ref 26, .int (nI t), .int (nI (m + 1)), .long x3, .null, .int (nI (pkC (fun c => wW (SN cnt fld fty) fld fty (4 * t + c) (fld (4 * t + c)) m) n c r).1), .long (lN (pkC (fun c => wW (SN cnt fld fty) fld fty (4 * t + c) (fld (4 * t + c)) m) n c r).2), .null, .null, .null, .null, .null, .null, .null] [] (mm_Λ, I, J) mc ms o σ' →
    mm_Run l X 124 (d + 3) 6 [.ref 26, .int (nI t), .int (nI (m + 1)), .long x3, .null, .int (nI c), .long (lN r), .null, .null, .null, .null, .null, .null, .null] [] (mm_Λ, I, J) mc ms o σ'
  | 0, c, r, hc, hr, h62, rr => by
    have hf := hT.tw.form ht (show c < cnt t by omega)
    have hb := wW_lt hT.tw hf (Nat.le_refl (fld (4 * t + c))) hm
    have hr' : r < wW (SN cnt fld fty) fld fty (4 * t + c) (fld (4 * t + c)) m := by simpa [sm] using hr
    exact b124_6 (c113 hT (hZ.toM _) hm hf) (b124_16 (fun _ => rr) (fun q => absurd ((lgclt _ _).mpr ((gL_lt (by omega) (by omega)).mpr hr')) q))
  | n + 1, c, r, hc, hr, h62, rr => by
    have hf := hT.tw.form ht (show c < cnt t by omega)
    have hb := wW_lt hT.tw hf (Nat.le_refl (fld (4 * t + c))) hm
    rw [pkC] at rr
    refine b124_6 (c113 hT (hZ.toM _) hm hf) (b124_16 (fun q => ?_) (fun q => b124_20 (c113 hT (hZ.toM _) hm hf) (b124_30 ?_)))
    · have hlt : r < wW (SN cnt fld fty) fld fty (4 * t + c) (fld (4 * t + c)) m := (gL_lt (by omega) (by omega)).mp ((lgclt _ _).mp q)
      rw [if_pos hlt] at rr
      exact rr
    · have hlt : ¬ r < wW (SN cnt fld fty) fld fty (4 * t + c) (fld (4 * t + c)) m := fun z => q ((lgclt _ _).mpr ((gL_lt (by omega) (by omega)).mpr z))
      rw [if_neg hlt] at rr
      rw [lN_sub (by omega), nI_1]
      have hr' : r < wW (SN cnt fld fty) fld fty (4 * t + c) (fld (4 * t + c)) m + sm (fun c => wW (SN cnt fld fty) fld fty (4 * t + c) (fld (4 * t + c)) m) (n + 1) (c + 1) := hr
      exact v124_pick hT ht hZ hm n (c + 1) _ (by omega) (by omega) (by omega) rr
theorem v124_row (hT : TV I 27 28 29 cnt fld fty) (hf : 4 * t + c < 24) (hZ : MZ cnt fld fty J) {m x : Nat} {x3 : Int64} {g : Nat → Nat} (hm : m < 12) (hx : x ≤ m) (hg : g = fun y => by3 (SN cnt fld fty) fld fty (4 * t + c) x y (m - x - y)) (hb : ∀ y, y ≤ m - x → g y < 2 ^ 62) {o : mm_O} {σ' : mm_S} : ∀ (n y r : Nat), y + n + 1 = m + 1 - x → r < 2 ^ 62 →
    (r < sumP g (n + 1) y → mm_Run l X 124 (d + 2) 138 [.ref 26, .int (nI t), .int (nI (m + 1)), .long x3, .null, .int (nI c), .long (lN (pkC g n y r).2), .null, .int (nI x), .int (nI (pkC g n y r).1), .null, .null, .null, .null] [] (mm_Λ, I, J) mc ms o σ') →
    (¬ r < sumP g (n + 1) y → mm_Run l X 124 (d + 2) 66 [.ref 26, .int (nI t), .int (nI (m + 1)), .long x3, .null, .int (nI c), .long (lN (r - sumP g (n + 1) y)), .null, .int (nI (x + 1)), .int (nI 0), .null, .null, .null, .null] [] (mm_Λ, I, J) mc ms o σ') →
    mm_Run l X 124 (d + 2) 66 [.ref 26, .int (nI t), .int (nI (m + 1)), .long x3, .null, .int (nI c), .long (lN r), .null, .int (nI x), .int (nI y), .null, .null, .null, .null] [] (mm_Λ, I, J) mc ms o σ'
  | 0, y, r, hy, h62, k1, k2 => by
    have hby := hb y (by omega)
    have es : sumP g (0 + 1) y = g y := by rw [sumP, sumP, Nat.add_zero]
    rw [es] at k1 k2
    have r114 := @c114 l X d I J 0 0 cnt fld fty hT J 13 0 t c x y (m - x - y) (hZ.toM _) (by omega) hf (by omega) (by omega) (by omega)
    have eg : by3 (SN cnt fld fty) fld fty (4 * t + c) x y (m - x - y) = g y := by rw [hg]
    rw [eg] at r114
    refine b124_66 (I1 := I) (J1 := J) (by rw [nI_pred, nI_sub hx, nI_sub (by omega)]; exact r114) (b124_88 (fun q => ?_) (fun q => b124_92 (I1 := I) (J1 := J) (by rw [nI_pred, nI_sub hx, nI_sub (by omega)]; exact r114) (b124_114 (fun z => absurd ?_ z) (fun _ => b124_129 ?_))))
    · exact k1 ((gL_lt (by omega) (by omega)).mp ((lgclt _ _).mp q))
    · rw [nI_1, nI_add]
      congr 1
      omega
    · have hlt : ¬ r < g y := fun z => q ((lgclt _ _).mpr ((gL_lt (by omega) (by omega)).mpr z))
      rw [lN_sub (by omega), nI_1, ← nI_0]
      exact k2 hlt
  | n + 1, y, r, hy, h62, k1, k2 => by
    have hby := hb y (by omega)
    have es : sumP g (n + 1 + 1) y = g y + sumP g (n + 1) (y + 1) := rfl
    rw [es] at k1 k2
    have r114 := @c114 l X d I J 0 0 cnt fld fty hT J 13 0 t c x y (m - x - y) (hZ.toM _) (by omega) hf (by omega) (by omega) (by omega)
    have eg : by3 (SN cnt fld fty) fld fty (4 * t + c) x y (m - x - y) = g y := by rw [hg]
    rw [eg] at r114
    rw [pkC] at k1
    refine b124_66 (I1 := I) (J1 := J) (by rw [nI_pred, nI_sub hx, nI_sub (by omega)]; exact r114) (b124_88 (fun q => ?_) (fun q => b124_92 (I1 := I) (J1 := J) (by rw [nI_pred, nI_sub hx, nI_sub (by omega)]; exact r114) (b124_114 (fun _ => ?_) (fun z => absurd (fun w => ?_) z))))
    · have hlt := (gL_lt (by omega) (by omega)).mp ((lgclt _ _).mp q)
      have := k1 (by omega)
      rw [if_pos hlt] at this
      exact this
    · have hlt : ¬ r < g y := fun z => q ((lgclt _ _).mpr ((gL_lt (by omega) (by omega)).mpr z))
      rw [if_neg hlt] at k1
      rw [lN_sub (by omega), nI_1]
      exact v124_row hT hf hZ hm hx hg hb n (y + 1) (r - g y) (by omega) (by omega) (fun z => k1 (by omega)) (fun z => by
        have := k2 (by omega)
        rw [Nat.sub_add_eq] at this
        exact this)
    · rw [nI_1, nI_add] at w
      have := (nI_eq (by omega) (by omega)).mp w
      omega
theorem v124_x (hT : TV I 27 28 29 cnt fld fty) (hf : 4 * t + c < 24) (hZ : MZ cnt fld fty J) {m : Nat} {x3 : Int64} {G : Nat → Nat} (hm : m < 12) (hG : G = fun x => sumP (fun y => by3 (SN cnt fld fty) fld fty (4 * t + c) x y (m - x - y)) (m + 1 - x) 0) (hb : ∀ x y, x ≤ m → y ≤ m - x → by3 (SN cnt fld fty) fld fty (4 * t + c) x y (m - x - y) < 2 ^ 62) {o : mm_O} {σ' : mm_S} : ∀ (n x r : Nat), x + n = m → r < 2 ^ 62 → r < sumP G (n + 1) x →
    mm_Run l X 124 (d + 2) 138 [.ref 26, .int (nI t), .int (nI (m + 1)), .long x3, .null, .int (nI c), .long (lN (pkC (fun y => by3 (SN cnt fld fty) fld fty (4 * t + c) (pkC G n x r).1 y (m - (pkC G n x r).1 - y)) (m - (pkC G n x r).1) 0 (pkC G n x r).2).2), .null, .int (nI (pkC G n x r).1), .int (nI (pkC (fun y => by3 (SN cnt fld fty) fld fty (4 * t + c) (pkC G n x r).1 y (m - (pkC G n x r).1 - y)) (m - (pkC G n x r).1) 0 (pkC G n x r).2).1), .null, .null, .null, .null] [] (mm_Λ, I, J) mc ms o σ' →
    mm_Run l X 124 (d + 2) 66 [.ref 26, .int (nI t), .int (nI (m + 1)), .long x3, .null, .int (nI c), .long (lN r), .null, .int (nI x), .int (nI 0), .null, .null, .null, .null] [] (mm_Λ, I, J) mc ms o σ'
  | 0, x, r, hx, h62, hr, rr => by
    have eg : sumP (fun y => by3 (SN cnt fld fty) fld fty (4 * t + c) x y (m - x - y)) (m - x + 1) 0 = G x := by
      rw [hG, show m - x + 1 = m + 1 - x by omega]
    have es : sumP G (0 + 1) x = G x := by rw [sumP, sumP, Nat.add_zero]
    rw [es] at hr
    exact v124_row hT hf hZ hm (by omega) rfl (fun y hy => hb x y (by omega) hy) (m - x) 0 r (by omega) h62 (fun _ => rr) (fun z => absurd (by rw [eg]; exact hr) z)
  | n + 1, x, r, hx, h62, hr, rr => by
    have eg : sumP (fun y => by3 (SN cnt fld fty) fld fty (4 * t + c) x y (m - x - y)) (m - x + 1) 0 = G x := by
      rw [hG, show m - x + 1 = m + 1 - x by omega]
    have es : sumP G (n + 1 + 1) x = G x + sumP G (n + 1) (x + 1) := rfl
    rw [es] at hr
    refine v124_row hT hf hZ hm (by omega) rfl (fun y hy => hb x y (by omega) hy) (m - x) 0 r (by omega) h62 (fun z => ?_) (fun z => ?_)
    · rw [eg] at z
      rw [pkC, if_pos z] at rr
      exact rr
    · rw [eg] at z ⊢
      rw [pkC, if_neg z] at rr
      exact v124_x hT hf hZ hm hG hb n (x + 1) (r - G x) (by omega) (by omega) (by omega) rr
theorem v124_push {m r0 xx yy : Nat} {x3 : Int64} {G sz : Nat → Nat} (hT : TV I 27 28 29 cnt fld fty) (hf : 4 * t + c < 24) (hZ : MZ cnt fld fty J) (hm : m < 12) (hxy : 2 < fld (4 * t + c) → xx + yy ≤ m) (hsz : ∀ k, k < fld (4 * t + c) → sz k = (if k = 0 then xx else if k = 1 then yy else m - xx - yy)) (hs12 : ∀ k, k < fld (4 * t + c) → sz k ≤ 12) (hG : G = fun k => SN cnt fld fty (sz k) (fty (3 * (4 * t + c) + k))) (hpos : ∀ i, i < fld (4 * t + c) → 0 < G i) (hr0 : r0 < 2 ^ 62) :
    ∀ (kk s : Nat) (I' : Nat → Nat → Int32) (J' : Nat → Nat → Int64), kk ≤ fld (4 * t + c) → I' 26 10 = nI s → s + kk ≤ 512 → (∀ r, r ∉ [26, 34, 35, 36] → I' r = I r) → J' 31 = J 31 →
    ∃ I'' J'', mm_Run l X 124 (d + 1) 153 [.ref 26, .int (nI t), .int (nI (m + 1)), .long x3, .null, .int (nI c), .long (lN (r0 / prd G (fld (4 * t + c) - kk) kk)), .null, .int (nI xx), .int (nI yy), .int (kx kk), .null, .null, .null] [] (mm_Λ, I', J') mc ms (.inl none) (mm_Λ, I'', J'') ∧ I'' 26 10 = nI (s + kk) ∧
      (∀ j, j < kk → I'' 35 (s + (kk - 1 - j)) = nI (fty (3 * (4 * t + c) + j)) ∧ I'' 36 (s + (kk - 1 - j)) = nI (sz j) ∧ J'' 37 (s + (kk - 1 - j)) = lN (dg G (fld (4 * t + c)) r0 j)) ∧ SF [] [] s I' I'' J' J''
  | 0, s, I', J', hk, h10, hs, hI, hJ' => ⟨I', J', b124_153 (fun _ => b124_240) (fun q => absurd (by decide) q), h10, fun j hj => by omega, SF.refl⟩
  | kk + 1, s, I', J', hk, h10, hs, hI, hJ' => by
    have hT' : TV I' 27 28 29 cnt fld fty := hT.of (hI 27 (by decide)) (hI 28 (by decide)) (hI 29 (by decide))
    have h3 := hT.tw.2.1 _ hf
    have h6 := hT.tw.2.2 _ hf kk (by omega)
    have hz12 := hs12 kk (by omega)
    have hgk : G kk < 2 ^ 42 := by rw [hG]; exact SN_lt hT.tw hz12 h6
    have hgp := hpos kk (by omega)
    have hR : r0 / prd G (fld (4 * t + c) - (kk + 1)) (kk + 1) < 2 ^ 62 := Nat.lt_of_le_of_lt (Nat.div_le_self _ _) (by omega)
    have hn0 : ¬ lN (G kk) = 0 := fun q => absurd ((gL_eq (by omega) (by omega)).mp (q.trans lit_0)) (by omega)
    have hdiv : r0 / prd G (fld (4 * t + c) - (kk + 1)) (kk + 1) / G kk = r0 / prd G (fld (4 * t + c) - kk) kk := by
      rw [Nat.div_div_eq_div_mul, show fld (4 * t + c) - kk = (fld (4 * t + c) - (kk + 1)) + 1 by omega, prd, Nat.mul_comm]
    have r115 := @c115 l X d I' J' 0 0 cnt fld fty J' 13 0 (fty (3 * (4 * t + c) + kk)) (sz kk) ((hZ.of hJ').toM _) h6 (by omega) (by omega)
    have eg : SN cnt fld fty (sz kk) (fty (3 * (4 * t + c) + kk)) = G kk := by rw [hG]
    rw [eg] at r115
    let K := mm_set (mm_set (mm_set I' 35 s (nI (fty (3 * (4 * t + c) + kk)))) 36 s (nI (sz kk))) 26 10 (nI (s + 1))
    have hK : ∀ r, r ∉ [26, 34, 35, 36] → K r = I r := fun r hr => by
      have hr' := hr
      simp only [List.mem_cons, List.not_mem_nil, or_false, not_or] at hr'
      show mm_set _ _ _ _ r = _
      rw [mm_set_ne hr'.1, mm_set_ne hr'.2.2.2, mm_set_ne hr'.2.2.1]
      exact hI r hr
    obtain ⟨I'', J'', r, g1, g2, g3⟩ := v124_push (x3 := x3) hT hf hZ hm hxy hsz hs12 hG hpos hr0 kk (s + 1) K (mm_set J' 37 s (lN (dg G (fld (4 * t + c)) r0 kk))) (by omega) (by simp [K, mm_set]) (by omega) hK (by rw [mm_set_ne (by decide)]; exact hJ')
    have tail : mm_Run l X 124 (d + 1) 188 [.ref 26, .int (nI t), .int (nI (m + 1)), .long x3, .null, .int (nI c), .long (lN (r0 / prd G (fld (4 * t + c) - (kk + 1)) (kk + 1))), .null, .int (nI xx), .int (nI yy), .int (nI kk), .null, .null, .null] [.int (nI (sz kk))] (mm_Λ, I', J') mc ms (.inl none) (mm_Λ, I'', J'') := by
      refine b124_188 (c107 hT' hf (by omega)) (b124_200 r115 (b124_205 (c107 hT' hf (by omega)) (b124_217 (I1 := K) (J1 := mm_set J' 37 s (lN (dg G (fld (4 * t + c)) r0 kk))) hn0 ?_ (b124_227 hn0 ?_))))
      · rw [gL_mod hR (by omega)]
        exact c119 (by omega) h10
      · rw [gL_div hR (by omega), hdiv, kx_dec]
        exact r
    have hez := hsz kk (by omega)
    refine ⟨I'', J'', b124_153 (fun q => absurd q (nI_pos (by omega))) (fun _ => b124_158 (fun z => b124_168 (fun z1 => b124_179 ?_) (fun z1 => b124_174 ?_)) (fun z => b124_163 ?_)), by rw [g1]; congr 1; omega, fun j hj => ?_, SF.push.trans g3 (by omega)⟩
    · have n0 : ¬ kk = 0 := fun w => z (by rw [w]; rfl)
      have n1 : ¬ kk = 1 := fun w => z1 (by rw [w]; rfl)
      rw [if_neg n0, if_neg n1] at hez
      have := hxy (by omega)
      rw [hez] at tail
      rw [nI_pred, nI_sub (by omega), nI_sub (by omega)]
      exact tail
    · have n1 : kk = 1 := (nI_eq (b := 1) (by omega) (by omega)).mp (Decidable.not_not.mp z1)
      rw [if_neg (by omega), if_pos n1] at hez
      rw [hez] at tail
      exact tail
    · have n0 : kk = 0 := (nI_eq (b := 0) (by omega) (by omega)).mp (Decidable.not_not.mp z)
      rw [if_pos n0] at hez
      rw [hez] at tail
      exact tail
    · by_cases e1 : j = kk
      · subst e1
        obtain ⟨z1, z2, z3⟩ := g3.1 s (by omega)
        rw [show s + (j + 1 - 1 - j) = s by omega, z1, z2, z3]
        simp [K, mm_set]
      · rw [show s + (kk + 1 - 1 - j) = s + 1 + (kk - 1 - j) by omega]
        exact g2 j (by omega)
/-- showNext -/
theorem c124 {m sp : Nat} (hT : TV I 27 28 29 cnt fld fty) (hZ : MZ cnt fld fty J) (ht : t < 6) (hm : m < 12) (hn : n < SN cnt fld fty (m + 1) t) (h10 : I 26 10 = nI sp) (hsp : sp + 3 ≤ 512) (hR : RW (I 26 8) (I 34) L) (hL : L.length < 256) :
    ∃ I' J', mm_Call l X 124 (d + 3) [.ref 26, .int (nI t), .int (nI (m + 1)), .long (lN n)] (mm_Λ, I, J) mc ms (.inl none) (mm_Λ, I', J') ∧ I' 26 10 = nI (sp + fld (4 * t + (szC cnt fld fty m t n).1)) ∧
      (∀ j, j < fld (4 * t + (szC cnt fld fty m t n).1) → I' 35 (sp + (fld (4 * t + (szC cnt fld fty m t n).1) - 1 - j)) = nI (fty (3 * (4 * t + (szC cnt fld fty m t n).1) + j)) ∧ I' 36 (sp + (fld (4 * t + (szC cnt fld fty m t n).1) - 1 - j)) = nI ((szP cnt fld fty m t n).1 j) ∧ J' 37 (sp + (fld (4 * t + (szC cnt fld fty m t n).1) - 1 - j)) = lN (dg (szG cnt fld fty m t n) (fld (4 * t + (szC cnt fld fty m t n).1)) (szP cnt fld fty m t n).2 j)) ∧
      RW (I' 26 8) (I' 34) (L ++ [nI (szC cnt fld fty m t n).1]) ∧ SF [34] [8] sp I I' J J' := by
  obtain ⟨c1, c2, c3, c4, c5⟩ := szC_ok hn
  obtain ⟨p1, p2, p3, p4⟩ := szP_ok hn
  have hf := hT.tw.form ht c1
  have h3 := hT.tw.2.1 _ hf
  have hn42 := SN_lt hT.tw (show m + 1 ≤ 12 by omega) ht
  obtain ⟨e1, e2⟩ := ref_eq (S := SN cnt fld fty) (fty := fty) (SN_0 cnt fld fty) h3 c2
  have e1' : (szP cnt fld fty m t n).2 = (rfY (SN cnt fld fty) fld fty (4 * t + (szC cnt fld fty m t n).1) m (szC cnt fld fty m t n).2).2 := e1
  have e2' : ∀ k, k < fld (4 * t + (szC cnt fld fty m t n).1) → (szP cnt fld fty m t n).1 k = rfK (SN cnt fld fty) fld fty (4 * t + (szC cnt fld fty m t n).1) m (szC cnt fld fty m t n).2 k := e2
  have hsum := sum3_wW (S := SN cnt fld fty) (fty := fty) (SN_0 cnt fld fty) h3 m
  have hw := wW_lt hT.tw hf (Nat.le_refl _) hm
  rw [← hsum] at hw
  have hb : ∀ x y, x ≤ m → y ≤ m - x → by3 (SN cnt fld fty) fld fty (4 * t + (szC cnt fld fty m t n).1) x y (m - x - y) < 2 ^ 62 := fun x y hx hy => by
    have a1 := sumP_one (g := fun y => by3 (SN cnt fld fty) fld fty (4 * t + (szC cnt fld fty m t n).1) x y (m - x - y)) (i := y) (m + 1 - x) 0 (Nat.zero_le _) (by omega)
    have a2 := sumP_one (g := fun x => sumP (fun y => by3 (SN cnt fld fty) fld fty (4 * t + (szC cnt fld fty m t n).1) x y (m - x - y)) (m + 1 - x) 0) (i := x) (m + 1) 0 (Nat.zero_le _) (by omega)
    unfold sum3 at hw
    omega
  have hrs : (szC cnt fld fty m t n).2 < sumP (fun x => sumP (fun y => by3 (SN cnt fld fty) fld fty (4 * t + (szC cnt fld fty m t n).1) x y (m - x - y)) (m + 1 - x) 0) (m + 1) 0 := by
    have : (szC cnt fld fty m t n).2 < sum3 (SN cnt fld fty) fld fty (4 * t + (szC cnt fld fty m t n).1) m := by rw [hsum]; exact c2
    exact this
  have hxle : (rfX (SN cnt fld fty) fld fty (4 * t + (szC cnt fld fty m t n).1) m (szC cnt fld fty m t n).2).1 ≤ m := by
    obtain ⟨z1, z2, z3, z4⟩ := pkC_ok (g := fun x => sumP (fun y => by3 (SN cnt fld fty) fld fty (4 * t + (szC cnt fld fty m t n).1) x y (m - x - y)) (m + 1 - x) 0) m 0 (szC cnt fld fty m t n).2 (by rw [sm_sumP]; exact hrs)
    unfold rfX
    omega
  generalize hc : (szC cnt fld fty m t n).1 = c at *
  generalize hrc : (szC cnt fld fty m t n).2 = rc at *
  -- the sizes
  have hxy : 2 < fld (4 * t + c) → (rfX (SN cnt fld fty) fld fty (4 * t + c) m rc).1 + (rfY (SN cnt fld fty) fld fty (4 * t + c) m rc).1 ≤ m := fun z => by
    have k2 := p1 2 z
    rw [e2' 2 z] at k2
    have : rfK (SN cnt fld fty) fld fty (4 * t + c) m rc 2 = m - (rfX (SN cnt fld fty) fld fty (4 * t + c) m rc).1 - (rfY (SN cnt fld fty) fld fty (4 * t + c) m rc).1 := rfl
    rw [this] at k2
    omega
  have hI1 : ∀ r, r ∉ [26, 34] → (mm_set (mm_set I 34 L.length (nI c)) 26 8 (nI (L.length + 1))) r = I r := fun r hr => by
    simp only [List.mem_cons, List.not_mem_nil, or_false, not_or] at hr
    rw [mm_set_ne hr.1, mm_set_ne hr.2]
  have hT1 : TV (mm_set (mm_set I 34 L.length (nI c)) 26 8 (nI (L.length + 1))) 27 28 29 cnt fld fty := hT.of (hI1 27 (by decide)) (hI1 28 (by decide)) (hI1 29 (by decide))
  obtain ⟨I', J', r, g1, g2, g3⟩ := @v124_push l X (d + 2) (mm_set (mm_set I 34 L.length (nI c)) 26 8 (nI (L.length + 1))) J mc ms cnt fld fty t c m (szP cnt fld fty m t n).2 (rfX (SN cnt fld fty) fld fty (4 * t + c) m rc).1 (rfY (SN cnt fld fty) fld fty (4 * t + c) m rc).1 (lN n) (szG cnt fld fty m t n) (szP cnt fld fty m t n).1 hT1 hf hZ hm hxy (fun k hk => e2' k hk) (fun k hk => by have := (p1 k hk).2; omega) (by unfold szG; rw [hc]) (fun i hi => szG_pos hn (by rw [hc]; exact hi)) (by omega) (fld (4 * t + c)) sp (mm_set (mm_set I 34 L.length (nI c)) 26 8 (nI (L.length + 1))) J (Nat.le_refl _) (by simp [mm_set]; exact h10) (by omega) (fun _ _ => rfl) rfl
  rw [Nat.sub_self, prd, Nat.div_one, e1'] at r
  refine ⟨I', J', b124_0 ?_, g1, g2, ?_, ⟨fun i hi => ?_, fun q hq => ?_, fun i hi => ?_, g3.2.2.2⟩⟩
  · rw [← nI_0]
    refine v124_pick hT ht hZ hm (cnt t - 1) 0 n (by omega) c4 (by omega) ?_
    have ec : pkC (fun c => wW (SN cnt fld fty) fld fty (4 * t + c) (fld (4 * t + c)) m) (cnt t - 1) 0 n = szC cnt fld fty m t n := rfl
    rw [ec, hc, hrc]
    have q39 := @b124_39 l X (d + 2) I J (nI t) (nI (m + 1)) (lN n) (nI c) (lN rc) mc ms (.inl none) (mm_Λ, I', J')
    rw [hR.1, ix_cl (by omega), nI_1] at q39
    refine q39 (ix_in hL (by omega)) ?_
    rw [← nI_0]
    refine v124_x (d := d + 1) hT1 hf hZ hm rfl hb m 0 rc (by omega) (by omega) hrs ?_
    have q138 := @b124_138 l X (d + 2) (mm_set (mm_set I 34 L.length (nI c)) 26 8 (nI (L.length + 1))) J (nI t) (nI (m + 1)) (lN n) (nI c) (lN (rfY (SN cnt fld fty) fld fty (4 * t + c) m rc).2) (nI (rfX (SN cnt fld fty) fld fty (4 * t + c) m rc).1) (nI (rfY (SN cnt fld fty) fld fty (4 * t + c) m rc).1) mc ms (.inl none) (mm_Λ, I', J')
    rw [jx4, ix_cl (by omega), (hT1.2.1 _ hf).1, Int32.sub_eq_add_neg, kx_dec] at q138
    exact q138 (ix_in hf (by omega)) r
  · rw [g3.2.2.1 8 (by decide), g3.2.1 34 (by decide)]
    exact hR.add (by simp [mm_set]) (by simp [mm_set]) (fun j hj => by simp [mm_set]; omega)
  · obtain ⟨z1, z2, z3⟩ := g3.1 i hi
    exact ⟨by rw [z1, hI1 35 (by decide)], by rw [z2, hI1 36 (by decide)], z3⟩
  · simp only [List.mem_cons, List.not_mem_nil, or_false, not_or] at hq
    rw [g3.2.1 q (by simp only [List.mem_cons, List.not_mem_nil, or_false, not_or]; exact ⟨hq.1, hq.2.1, hq.2.2.1⟩), hI1 q (by simp only [List.mem_cons, List.not_mem_nil, or_false, not_or]; exact ⟨hq.1, hq.2.2.2⟩)]
  · simp only [List.mem_cons, List.not_mem_nil, or_false, not_or] at hi
    rw [g3.2.2.1 i (by simp only [List.mem_cons, List.not_mem_nil, or_false]; exact hi.1)]
    simp [mm_set, hi.2]
theorem v123_kids {x1 x2 : Int32} {x3 : Int64} {e m0 sp : Nat} {ty sz nm : Nat → Nat} {g : Nat → List Int32} {I0 : Nat → Nat → Int32}
    (hIH : ∀ k sp' L (I : Nat → Nat → Int32) (J : Nat → Nat → Int64), k < m0 → (∀ r, r ∉ [26, 34, 35, 36] → I r = I0 r) → MZ cnt fld fty J → I 26 10 = nI (sp' + 1) → I 35 sp' = nI (ty k) → I 36 sp' = nI (sz k) → J 37 sp' = lN (nm k) → RW (I 26 8) (I 34) L → sp' + 1 + 2 * e ≤ 500 → L.length + (g k).length ≤ 121 →
      ∃ I' J', (∀ {mc ms : Nat} {o : mm_O} {σ' : mm_S}, mm_Run l X 123 (d + 4) 79 [.ref 26, .int x1, .int x2, .long x3, .null] [] (mm_Λ, I', J') mc ms o σ' → mm_Run l X 123 (d + 4) 79 [.ref 26, .int x1, .int x2, .long x3, .null] [] (mm_Λ, I, J) mc ms o σ') ∧ I' 26 10 = nI sp' ∧ RW (I' 26 8) (I' 34) (L ++ g k) ∧ SF [34] [8] sp' I I' J J') :
    ∀ (m k : Nat) (L : List Int32) (I : Nat → Nat → Int32) (J : Nat → Nat → Int64), k + m = m0 → (∀ r, r ∉ [26, 34, 35, 36] → I r = I0 r) → MZ cnt fld fty J → I 26 10 = nI (sp + m) → (∀ j, k ≤ j → j < m0 → I 35 (sp + (m0 - 1 - j)) = nI (ty j) ∧ I 36 (sp + (m0 - 1 - j)) = nI (sz j) ∧ J 37 (sp + (m0 - 1 - j)) = lN (nm j)) → RW (I 26 8) (I 34) L → sp + m + 2 * e ≤ 500 → L.length + (cat g m k).length ≤ 121 →
      ∃ I' J', (∀ {mc ms : Nat} {o : mm_O} {σ' : mm_S}, mm_Run l X 123 (d + 4) 79 [.ref 26, .int x1, .int x2, .long x3, .null] [] (mm_Λ, I', J') mc ms o σ' → mm_Run l X 123 (d + 4) 79 [.ref 26, .int x1, .int x2, .long x3, .null] [] (mm_Λ, I, J) mc ms o σ') ∧ I' 26 10 = nI sp ∧ RW (I' 26 8) (I' 34) (L ++ cat g m k) ∧ SF [34] [8] sp I I' J J'
  | 0, k, L, I, J, hk, hI, hZ, h10, hst, hR, hs, hL => ⟨I, J, fun rr => rr, h10, by rw [cat, List.append_nil]; exact hR, SF.refl⟩
  | m + 1, k, L, I, J, hk, hI, hZ, h10, hst, hR, hs, hL => by
    rw [cat, List.length_append] at hL
    obtain ⟨u1, u2, u3⟩ := hst k (Nat.le_refl _) (by omega)
    rw [show sp + (m0 - 1 - k) = sp + m by omega] at u1 u2 u3
    obtain ⟨I1, J1, st1, a1, a2, a3⟩ := hIH k (sp + m) L I J (by omega) hI hZ h10 u1 u2 u3 hR (by omega) (by omega)
    obtain ⟨I', J', st, b1, b2, b3⟩ := v123_kids hIH m (k + 1) (L ++ g k) I1 J1 (by omega) (fun r hr => by rw [a3.2.1 r (by simp only [List.mem_cons, List.not_mem_nil, or_false, not_or] at hr ⊢; exact ⟨hr.1, hr.2.2.1, hr.2.2.2, hr.2.1⟩)]; exact hI r hr) (hZ.of (a3.2.2.2 31 (by decide))) a1
      (fun j h1 h2 => by
        obtain ⟨z1, z2, z3⟩ := a3.1 (sp + (m0 - 1 - j)) (by omega)
        rw [z1, z2, z3]
        exact hst j (by omega) h2) a2 (by omega) (by rw [List.length_append]; omega)
    exact ⟨I', J', fun rr => st1 (st rr), b1, by rw [cat, ← List.append_assoc]; exact b2, a3.trans_le b3 (by omega)⟩
theorem v123_top {x1 x2 : Int32} {x3 : Int64} : ∀ (e s t n sp : Nat) (L : List Int32) (I : Nat → Nat → Int32) (J : Nat → Nat → Int64), s ≤ e → 1 ≤ s → s ≤ 12 → t < 6 → n < SN cnt fld fty s t → TV I 27 28 29 cnt fld fty → MZ cnt fld fty J → I 26 10 = nI (sp + 1) → I 35 sp = nI t → I 36 sp = nI s → J 37 sp = lN n → RW (I 26 8) (I 34) L → sp + 1 + 2 * e ≤ 500 → L.length + s ≤ 121 →
      ∃ I' J', (∀ {mc ms : Nat} {o : mm_O} {σ' : mm_S}, mm_Run l X 123 (d + 4) 79 [.ref 26, .int x1, .int x2, .long x3, .null] [] (mm_Λ, I', J') mc ms o σ' → mm_Run l X 123 (d + 4) 79 [.ref 26, .int x1, .int x2, .long x3, .null] [] (mm_Λ, I, J) mc ms o σ') ∧ I' 26 10 = nI sp ∧ RW (I' 26 8) (I' 34) (L ++ szL cnt fld fty e s t n) ∧ SF [34] [8] sp I I' J J' := by
  intro e
  induction e with
  | zero => intro s t n sp L I J h h1; omega
  | succ e ih =>
    intro s t n sp L I J hse h1 hs ht hn hT hZ h10 h35 h36 h37 hR hsp hL
    obtain ⟨m, rfl⟩ : ∃ m, s = m + 1 := ⟨s - 1, by omega⟩
    have hm : m < 12 := by omega
    obtain ⟨c1, -, -, -, -⟩ := szC_ok hn
    obtain ⟨p1, p2, p3, p4⟩ := szP_ok hn
    have hf := hT.tw.form ht c1
    have h3 := hT.tw.2.1 _ hf
    have hlen := szL_len hT.tw (e + 1) (m + 1) t n hse h1 ht hn
    have hT' : TV (mm_set I 26 10 (nI sp)) 27 28 29 cnt fld fty := hT.of (mm_set_ne (by decide)) (mm_set_ne (by decide)) (mm_set_ne (by decide))
    have hR' : RW ((mm_set I 26 10 (nI sp)) 26 8) ((mm_set I 26 10 (nI sp)) 34) L := by
      rw [mm_set_ne (show 34 ≠ 26 by decide), show (mm_set I 26 10 (nI sp)) 26 8 = I 26 8 by simp [mm_set]]
      exact hR
    obtain ⟨I1, J1, r1, g1, g2, g3, g4⟩ := @c124 l X d (mm_set I 26 10 (nI sp)) J 0 0 cnt fld fty t n L m sp hT' hZ ht hm hn (by simp [mm_set]) (by omega) hR' (by omega)
    have S1 : SF [34] [8] sp I I1 J J1 := by
      refine ⟨fun i hi => ?_, fun q hq => ?_, fun i hi => ?_, g4.2.2.2⟩
      · obtain ⟨z1, z2, z3⟩ := g4.1 i hi
        exact ⟨by rw [z1, mm_set_ne (by decide)], by rw [z2, mm_set_ne (by decide)], z3⟩
      · rw [g4.2.1 q hq, mm_set_ne (by simp only [List.mem_cons, not_or] at hq; exact hq.1)]
      · rw [g4.2.2.1 i hi]
        simp only [List.mem_cons, not_or] at hi
        simp [mm_set, hi.1]
    rw [szL, List.length_cons, Nat.add_sub_cancel] at hlen
    obtain ⟨I', J', st, b1, b2, b3⟩ := @v123_kids l X d cnt fld fty x1 x2 x3 e (fld (4 * t + (szC cnt fld fty m t n).1)) sp (fun j => fty (3 * (4 * t + (szC cnt fld fty m t n).1) + j)) (szP cnt fld fty m t n).1 (fun j => dg (szG cnt fld fty m t n) (fld (4 * t + (szC cnt fld fty m t n).1)) (szP cnt fld fty m t n).2 j) (fun k => szL cnt fld fty e ((szP cnt fld fty m t n).1 k) (fty (3 * (4 * t + (szC cnt fld fty m t n).1) + k)) (dg (szG cnt fld fty m t n) (fld (4 * t + (szC cnt fld fty m t n).1)) (szP cnt fld fty m t n).2 k)) I
      (fun k sp' L' I2 J2 hk hI2 hZ2 q10 q35 q36 q37 qR qs qL => by
        obtain ⟨y1, y2⟩ := p1 k hk
        have hu := hT.tw.2.2 _ hf k hk
        have hd : dg (szG cnt fld fty m t n) (fld (4 * t + (szC cnt fld fty m t n).1)) (szP cnt fld fty m t n).2 k < SN cnt fld fty ((szP cnt fld fty m t n).1 k) (fty (3 * (4 * t + (szC cnt fld fty m t n).1) + k)) := Nat.mod_lt _ (szG_pos hn hk)
        rw [szL_len hT.tw e _ _ _ (by omega) y1 hu hd] at qL
        exact ih _ _ _ sp' L' I2 J2 (by omega) y1 (by omega) hu hd (hT.of (hI2 27 (by decide)) (hI2 28 (by decide)) (hI2 29 (by decide))) hZ2 q10 q35 q36 q37 qR qs qL)
      (fld (4 * t + (szC cnt fld fty m t n).1)) 0 (L ++ [nI (szC cnt fld fty m t n).1]) I1 J1 (by omega) (fun r hr => S1.2.1 r (by simp only [List.mem_cons, List.not_mem_nil, or_false, not_or] at hr ⊢; exact ⟨hr.1, hr.2.2.1, hr.2.2.2, hr.2.1⟩)) (hZ.of (S1.2.2.2 31 (by decide))) g1 (fun j _ hj => g2 j hj) g3 (by omega) (by rw [List.length_append, List.length_singleton]; omega)
    refine ⟨I', J', fun {mc ms o σ'} rr => b123_79 (fun z => absurd z (by rw [h10]; exact nI_nle (by omega) (by omega))) (fun _ => ?_), b1, ?_, S1.trans b3 (Nat.le_refl _)⟩
    · have q := @b123_86 l X (d + 3) I J x1 x2 x3
      rw [h10, nI_pred, ix_cl (by omega), h35, h36, h37] at q
      exact q (ix_in (by omega) (by omega)) (ix_in (by omega) (by omega)) (ix_in (by omega) (by omega)) r1 (b123_127 (st rr))
    · rw [szL, Nat.add_sub_cancel]
      rw [List.append_assoc] at b2
      exact b2
theorem m_showSized {x y k : Int32} {z : Int64} (hT : TI cnt fld fty I J) (hb : zbar cnt fld fty x y z k) : ∃ b I1 J1, mm_Call l X 123 (d + 4) [.ref 26, .int x, .int y, .long z] (mm_Λ, I, J) mc ms (.inl (some (.int b))) (mm_Λ, I1, J1) ∧ I1 26 0 = k ∧ (∀ r, r ∉ [26, 34, 35, 36] → I1 r = I r) ∧ (∀ r, r ∉ [31, 37] → J1 r = J r) ∧ (∀ i, i ∉ [0, 8, 10] → I1 26 i = I 26 i) ∧
    (k ≠ 0 → I1 26 8 = I 26 8 ∧ I1 34 = I 34) ∧
    (k = 0 → ∀ t s n, t < 6 → 1 ≤ s → s ≤ 12 → x = nI t → y = nI s → z = lN n → n < SN cnt fld fty s t → RW (I1 26 8) (I1 34) (szL cnt fld fty 12 s t n) ∧ b = nI s) := by
  have fr : ∀ k : Int32, (∀ p, p ∉ [26, 34, 35, 36] → mm_set I 26 0 k p = I p) ∧ (∀ i, i ∉ [0, 8, 10] → mm_set I 26 0 k 26 i = I 26 i) ∧ (mm_set I 26 0 k 26 8 = I 26 8 ∧ mm_set I 26 0 k 34 = I 34) := fun k => ⟨fun p hp => mm_set_ne (by simp only [List.mem_cons, not_or] at hp; exact hp.1), fun i hi => by simp only [List.mem_cons, not_or] at hi; simp [mm_set, hi.1], by simp [mm_set], mm_set_ne (by decide)⟩
  have st2 : ∀ k : Int32, mm_set (mm_set I 26 0 0) 26 0 k = mm_set I 26 0 k := fun k => by
    funext q j
    simp only [mm_set]
    by_cases h1 : q = 26 <;> by_cases h2 : j = 0 <;> simp [h1, h2]
  have hT' : TV (mm_set I 26 0 0) 27 28 29 cnt fld fty := hT.2.1.of (mm_set_ne (by decide)) (mm_set_ne (by decide)) (mm_set_ne (by decide))
  rcases hb with ⟨h1, rfl⟩ | ⟨h1, h2, rfl⟩ | ⟨t, s, ht, hs1, hs2, rfl, rfl, h3, rfl⟩ | ⟨t, s, n, ht, hs1, hs2, rfl, rfl, rfl, hn, rfl⟩
  · exact ⟨0, _, J, b123_0 (c111 (Or.inl ⟨h1, rfl⟩)) (b123_6 (fun q => absurd q (by decide)) (fun _ => b123_16)), mm_at, (fr 1).1, fun _ _ => rfl, (fr 1).2.1, fun _ => (fr 1).2.2, fun q => absurd q (by decide)⟩
  · exact ⟨0, _, J, b123_0 (c111 (Or.inr (Or.inl ⟨h1, h2, rfl⟩))) (b123_6 (fun q => absurd q (by decide)) (fun _ => b123_16)), mm_at, (fr 2).1, fun _ _ => rfl, (fr 2).2.1, fun _ => (fr 2).2.2, fun q => absurd q (by decide)⟩
  · obtain ⟨J2, r, hp⟩ := @c112 l X d (mm_set I 26 0 0) J 0 0 cnt fld fty hT'
    have bad : mm_Run l X 123 (d + 4) 45 [.ref 26, .int (nI t), .int (nI s), .long z, .null] [.ref 26] (mm_Λ, mm_set I 26 0 0, J2) mc ms (.inl (some (.int 0))) (mm_Λ, mm_set I 26 0 3, J2) := by
      refine b123_45 (b123_50 (fun q => absurd q (by decide)) (fun _ => ?_))
      rw [st2]
      exact b123_60
    refine ⟨0, _, J2, b123_0 (c111 (Or.inr (Or.inr ⟨isT_of ht, isS_of hs1 hs2, rfl⟩))) (b123_6 (fun _ => b123_18 r (b123_22 (fun _ => bad) (fun q => b123_29 ?_ (fun q2 => absurd ⟨fun z1 => q ((lgclt _ _).mpr z1), ?_⟩ h3) (fun _ => bad)))) (fun q => absurd (by decide) q)), mm_at, (fr 3).1, fun p hp' => hp.1 p (by simp only [List.mem_cons, not_or] at hp'; exact hp'.1), (fr 3).2.1, fun _ => (fr 3).2.2, fun q => absurd q (by decide)⟩
    · rw [jx13]; exact ix_in (by omega) (by omega)
    · rw [jx13, ix_cl (by omega), hp.2 s t hs1 hs2 ht (Or.inl (by omega))] at q2
      exact (lgclt _ _).mp q2
  · have hD := SN_lt hT.1.tw hs2 ht
    obtain ⟨J2, r, hp⟩ := @c112 l X d (mm_set I 26 0 0) J 0 0 cnt fld fty hT'
    have hz : ¬ lN n < 0 := fun q => absurd ((gL_lt (b := 0) (by omega) (by omega)).mp q) (by omega)
    have hMZ : MZ cnt fld fty J2 := fun s' u a b c => hp.2 s' u a b c (Or.inl (by omega))
    have hcall := @c119 l X (d + 3) (mm_set (mm_set (mm_set (mm_set I 26 0 0) 26 0 0) 26 8 0) 26 10 0) J2 0 0 0 (nI t) (nI s) (lN n) (by omega) (by simp [mm_set]; exact nI_0.symm)
    have hpu := @SF.push (mm_set (mm_set (mm_set (mm_set I 26 0 0) 26 0 0) 26 8 0) 26 10 0) J2 0 (nI t) (nI s) (lN n)
    have hK : SF [34] [8] 0 (mm_set I 26 0 0) (mm_set (mm_set (mm_set (mm_set I 26 0 0) 26 0 0) 26 8 0) 26 10 0) J2 J2 := by
      refine ⟨fun i hi => by omega, fun q hq => ?_, fun i hi => ?_, fun _ _ => rfl⟩
      · simp only [List.mem_cons, List.not_mem_nil, or_false, not_or] at hq
        rw [mm_set_ne hq.1, mm_set_ne hq.1, st2]
      · simp only [List.mem_cons, List.not_mem_nil, or_false, not_or] at hi
        rw [st2]
        simp [mm_set, hi.1, hi.2]
    have k8 : (mm_set (mm_set (mm_set (mm_set I 26 0 0) 26 0 0) 26 8 0) 26 10 0) 26 8 = nI 0 := by simp [mm_set]; exact nI_0.symm
    generalize hKe : mm_set (mm_set (mm_set (mm_set I 26 0 0) 26 0 0) 26 8 0) 26 10 0 = K at hcall hpu hK k8
    have k10 : (mm_set (mm_set (mm_set K 35 0 (nI t)) 36 0 (nI s)) 26 10 (nI (0 + 1))) 26 10 = nI (0 + 1) := by simp [mm_set]
    have k35 : (mm_set (mm_set (mm_set K 35 0 (nI t)) 36 0 (nI s)) 26 10 (nI (0 + 1))) 35 0 = nI t := by simp [mm_set]
    have k36 : (mm_set (mm_set (mm_set K 35 0 (nI t)) 36 0 (nI s)) 26 10 (nI (0 + 1))) 36 0 = nI s := by simp [mm_set]
    generalize mm_set (mm_set (mm_set K 35 0 (nI t)) 36 0 (nI s)) 26 10 (nI (0 + 1)) = K1 at hcall hpu k10 k35 k36
    have hq := hK.trans (hpu.mono (R' := [34]) (Q' := [8]) (fun r hr => by simp at hr) (fun r hr => by simp at hr)) (Nat.le_refl _)
    obtain ⟨I4, J4, st, b1, hR, b3⟩ := @v123_top l X d cnt fld fty (nI t) (nI s) (lN n) 12 s t n 0 [] K1 (mm_set J2 37 0 (lN n)) hs2 hs1 hs2 ht hn (hT'.of (hq.2.1 27 (by decide)) (hq.2.1 28 (by decide)) (hq.2.1 29 (by decide))) (hMZ.of (mm_set_ne (by decide))) k10 k35 k36 (by simp [mm_set]) ⟨by rw [hpu.2.2.1 8 (by decide)]; exact k8, fun j x hx => by simp at hx⟩ (by omega) (by simp; omega)
    rw [List.nil_append] at hR
    have S4 := hq.trans b3 (Nat.le_refl _)
    have hlen := szL_len hT.1.tw 12 s t n hs2 hs1 ht hn
    have hdp : J2 31 (nI (13 * t + s)).toNatClampNeg = lN (SN cnt fld fty s t) := by
      rw [ix_cl (by omega)]
      exact hp.2 s t hs1 hs2 ht (Or.inl (by omega))
    have q130 := @b123_130 l X (d + 3) I4 J4 (nI t) (nI s) (lN n) mc ms
    refine ⟨I4 26 8, I4, J4, b123_0 (c111 (Or.inr (Or.inr ⟨isT_of ht, isS_of hs1 hs2, rfl⟩))) (b123_6 (fun _ => b123_18 r (b123_22 (fun q => absurd ((lgclt _ _).mp q) hz) (fun _ => b123_29 ?_ (fun _ => b123_49 (b123_50 (fun _ => b123_62 (I1 := K1) (J1 := mm_set J2 37 0 (lN n)) (by rw [hKe]; exact hcall) (st (b123_79 (fun _ => q130) (fun q => absurd (by rw [b1]; decide) q)))) (fun q => absurd (by decide) q))) (fun q => absurd ?_ q)))) (fun q => absurd (by decide) q)), ?_, fun p hp' => ?_, fun p hp' => ?_, fun i hi => ?_, fun q => absurd rfl q, fun _ t' s' n' ht' h1' h2' ex ey ez hn' => ?_⟩
    · rw [jx13]; exact ix_in (by omega) (by omega)
    · rw [jx13, hdp]; exact (lgclt _ _).mpr ((gL_lt (by omega) (by omega)).mpr hn)
    · rw [S4.2.2.1 0 (by decide)]; exact mm_at
    · rw [S4.2.1 p (by simp only [List.mem_cons, List.not_mem_nil, or_false, not_or] at hp' ⊢; exact ⟨hp'.1, hp'.2.2.1, hp'.2.2.2, hp'.2.1⟩)]
      exact (fr 0).1 p hp'
    · simp only [List.mem_cons, List.not_mem_nil, or_false, not_or] at hp'
      rw [S4.2.2.2 p hp'.2, hp.1 p hp'.1]
    · rw [S4.2.2.1 i (by simp only [List.mem_cons, List.not_mem_nil, or_false, not_or] at hi ⊢; exact ⟨hi.2.2, hi.2.1⟩)]
      exact (fr 0).2.1 i hi
    · have e1 : t = t' := (nI_eq (by omega) (by omega)).mp ex
      have e2 : s = s' := (nI_eq (by omega) (by omega)).mp ey
      subst e1; subst e2
      have e3 : n = n' := (gL_eq (by omega) (by have := SN_lt hT.1.tw hs2 ht; omega)).mp ez
      subst e3
      exact ⟨hR, by rw [hR.1, hlen]⟩
end SIZM
