section SAME2
variable {l : Launch} {X : Nat × (Nat → Int32)} {d : Nat} {I I' : Nat → Nat → Int32} {J J' : Nat → Nat → Int64} {mc ms : Nat} {cnt fld fty : Nat → Nat} {p q t t1 t2 c n n1 n2 s : Nat} {τ τ1 τ2 : TR}
theorem v137_kids {x1 x2 x3 x4 : Int32} {n' : Nat} {g : Nat → Nat} {I0 : Nat → Nat → Int32} (m0 : Nat)
    (hIH : ∀ k s' (I : Nat → Nat → Int32) (J : Nat → Nat → Int64), k < m0 → (∀ r, r ∉ [26, 35, 36] → I r = I0 r) → I 26 10 = nI (s' + 1) → I 35 s' = nI (4 * p + k + 1) → I 36 s' = nI (4 * q + k + 1) → s' + 1 + 2 * n' ≤ 500 →
      ∃ I' J', SF [] [] s' I I' J J' ∧ (g k = 1 → I' 26 10 = nI s' ∧ ∀ {mc ms : Nat} {o : mm_O} {σ' : mm_S}, mm_Run l X 137 (d + 1) 62 [.ref 26, .int x1, .int x2, .int x3, .int x4, .null, .null, .null, .null] [] (mm_Λ, I', J') mc ms o σ' → mm_Run l X 137 (d + 1) 62 [.ref 26, .int x1, .int x2, .int x3, .int x4, .null, .null, .null, .null] [] (mm_Λ, I, J) mc ms o σ') ∧
        (¬ g k = 1 → ∀ {mc ms : Nat}, mm_Run l X 137 (d + 1) 62 [.ref 26, .int x1, .int x2, .int x3, .int x4, .null, .null, .null, .null] [] (mm_Λ, I, J) mc ms (.inl (some (.int (nI (g k))))) (mm_Λ, I', J'))) :
    ∀ (m k : Nat) (I : Nat → Nat → Int32) (J : Nat → Nat → Int64), k + m = m0 → (∀ r, r ∉ [26, 35, 36] → I r = I0 r) → I 26 10 = nI (s + m) → (∀ j, k ≤ j → j < m0 → I 35 (s + (m0 - 1 - j)) = nI (4 * p + j + 1) ∧ I 36 (s + (m0 - 1 - j)) = nI (4 * q + j + 1)) → s + m + 2 * n' ≤ 500 →
      ∃ I' J', SF [] [] s I I' J J' ∧ (cmk g m k = 1 → I' 26 10 = nI s ∧ ∀ {mc ms : Nat} {o : mm_O} {σ' : mm_S}, mm_Run l X 137 (d + 1) 62 [.ref 26, .int x1, .int x2, .int x3, .int x4, .null, .null, .null, .null] [] (mm_Λ, I', J') mc ms o σ' → mm_Run l X 137 (d + 1) 62 [.ref 26, .int x1, .int x2, .int x3, .int x4, .null, .null, .null, .null] [] (mm_Λ, I, J) mc ms o σ') ∧
        (¬ cmk g m k = 1 → ∀ {mc ms : Nat}, mm_Run l X 137 (d + 1) 62 [.ref 26, .int x1, .int x2, .int x3, .int x4, .null, .null, .null, .null] [] (mm_Λ, I, J) mc ms (.inl (some (.int (nI (cmk g m k))))) (mm_Λ, I', J'))
  | 0, k, I, J, hk, hI, h10, hst, hs => ⟨I, J, SF.refl, fun _ => ⟨h10, fun rr => rr⟩, fun z => absurd rfl z⟩
  | m + 1, k, I, J, hk, hI, h10, hst, hs => by
    obtain ⟨u1, u2⟩ := hst k (Nat.le_refl _) (by omega)
    rw [show s + (m0 - 1 - k) = s + m by omega] at u1 u2
    obtain ⟨I1, J1, a1, a2, a3⟩ := hIH k (s + m) I J (by omega) hI h10 u1 u2 (by omega)
    rw [cmk]
    by_cases hg : g k = 1
    · rw [if_pos hg]
      obtain ⟨b10, st1⟩ := a2 hg
      obtain ⟨I', J', c1, c2, c3⟩ := v137_kids m0 hIH m (k + 1) I1 J1 (by omega) (fun r hr => by rw [a1.2.1 r hr]; exact hI r hr) b10
        (fun j h1 h2 => by
          obtain ⟨z1, z2, -⟩ := a1.1 (s + (m0 - 1 - j)) (by omega)
          rw [z1, z2]
          exact hst j (by omega) h2) (by omega)
      exact ⟨I', J', a1.trans_le c1 (by omega), fun z => ⟨(c2 z).1, fun rr => st1 ((c2 z).2 rr)⟩, fun z {mc ms} => st1 (c3 z)⟩
    · rw [if_neg hg]
      exact ⟨I1, J1, ⟨fun i hi => a1.1 i (by omega), a1.2⟩, fun z => absurd z hg, fun _ {mc ms} => a3 hg⟩
theorem v137_top {x1 x2 x3 x4 : Int32} : ∀ (n n2 p q t1 t2 s : Nat) (τ1 τ2 : TR) (I : Nat → Nat → Int32) (J : Nat → Nat → Int64), n ≤ 4 → n2 ≤ 4 → p < 4 ^ (4 - n) → q < 4 ^ (4 - n2) → t1 < 6 → t2 < 6 → TV I 27 28 29 cnt fld fty → HT false cnt fld fty (I 33) (I 32) (I 32) n τ1 t1 p → HT false cnt fld fty (I 33) (I 32) (I 32) n2 τ2 t2 q → I 26 10 = nI (s + 1) → I 35 s = nI p → I 36 s = nI q → s + 1 + 2 * n ≤ 500 →
      ∃ I' J', SF [] [] s I I' J J' ∧ (cm fld fty n τ1 τ2 t1 t2 p q = 1 → I' 26 10 = nI s ∧ ∀ {mc ms : Nat} {o : mm_O} {σ' : mm_S}, mm_Run l X 137 (d + 1) 62 [.ref 26, .int x1, .int x2, .int x3, .int x4, .null, .null, .null, .null] [] (mm_Λ, I', J') mc ms o σ' → mm_Run l X 137 (d + 1) 62 [.ref 26, .int x1, .int x2, .int x3, .int x4, .null, .null, .null, .null] [] (mm_Λ, I, J) mc ms o σ') ∧
        (¬ cm fld fty n τ1 τ2 t1 t2 p q = 1 → ∀ {mc ms : Nat}, mm_Run l X 137 (d + 1) 62 [.ref 26, .int x1, .int x2, .int x3, .int x4, .null, .null, .null, .null] [] (mm_Λ, I, J) mc ms (.inl (some (.int (nI (cm fld fty n τ1 τ2 t1 t2 p q))))) (mm_Λ, I', J')) := by
  intro n
  have popF : ∀ {s : Nat} {I : Nat → Nat → Int32} {J : Nat → Nat → Int64}, SF [] [] s I (mm_set I 26 10 (nI s)) J J := fun {s I J} => ⟨fun i _ => ⟨by simp [mm_set], by simp [mm_set], rfl⟩, fun r hr => mm_set_ne (by simp only [List.mem_cons, not_or] at hr; exact hr.1), fun i hi => by simp only [List.mem_cons, List.not_mem_nil, or_false] at hi; simp [mm_set, hi], fun _ _ => rfl⟩
  induction n with
  | zero =>
    intro n2 p q t1 t2 s τ1 τ2 I J hn hn2 hp hq ht1 ht2 hT h1 h2 h10 h35 h36 hs
    have hp6 := pw4 (n := 0) (by omega) hp
    have hq6 := pw4 hn2 hq
    obtain ⟨-, -, -, -, a5⟩ := h1.u hT.tw ht1
    have h0 : fl fld τ1 t1 = 0 := Nat.eq_zero_of_not_pos fun z => absurd (a5 0 z).1 (by omega)
    obtain ⟨g1, g2⟩ := @v137_head l X d I J cnt fld fty p q t1 t2 0 n2 s τ1 τ2 x1 x2 x3 x4 hT ht1 ht2 hp6 hq6 h1 h2 h10 (by omega) h35 h36
    by_cases n01 : τ1 [] = 0
    · refine ⟨_, J, popF, fun z => ?_, fun z {mc ms} => g1 _ ?_ (Or.inl n01)⟩
      · unfold cm at z; rw [if_pos n01] at z; omega
      · unfold cm; rw [if_pos n01, if_pos n01]
    · by_cases n02 : τ2 [] = 0
      · refine ⟨_, J, popF, fun z => ?_, fun z {mc ms} => g1 _ ?_ (Or.inr (Or.inl n02))⟩
        · unfold cm at z; rw [if_neg n01, if_pos n02] at z; omega
        · unfold cm; rw [if_neg n01, if_neg n01, if_pos n02, if_pos n02]
      · by_cases heq : τ1 [] = τ2 [] ∧ fl fld τ1 t1 = fl fld τ2 t2
        · refine ⟨_, J, popF, fun z => ⟨by simp [mm_set], fun rr => g2 n01 n02 heq ?_⟩, fun z => ?_⟩
          · rw [h0]
            exact b137_223 (fun _ => b137_257 rr) (fun z => absurd (by decide) z)
          · unfold cm at z; rw [if_neg n01, if_neg n02, if_pos heq] at z; exact absurd rfl z
        · refine ⟨_, J, popF, fun z => ?_, fun z {mc ms} => g1 _ ?_ (Or.inr (Or.inr heq))⟩
          · unfold cm at z; rw [if_neg n01, if_neg n02, if_neg heq] at z; omega
          · unfold cm; rw [if_neg n01, if_neg n01, if_neg n02, if_neg n02, if_neg heq]
  | succ n ih =>
    intro n2 p q t1 t2 s τ1 τ2 I J hn hn2 hp hq ht1 ht2 hT h1 h2 h10 h35 h36 hs
    have hp6 := pw4 (n := n + 1) (by omega) hp
    have hq6 := pw4 hn2 hq
    obtain ⟨-, -, -, a4, a5⟩ := h1.u hT.tw ht1
    obtain ⟨-, -, -, b4, b5⟩ := h2.u hT.tw ht2
    obtain ⟨g1, g2⟩ := @v137_head l X d I J cnt fld fty p q t1 t2 (n + 1) n2 s τ1 τ2 x1 x2 x3 x4 hT ht1 ht2 hp6 hq6 h1 h2 h10 (by omega) h35 h36
    by_cases n01 : τ1 [] = 0
    · refine ⟨_, J, popF, fun z => ?_, fun z {mc ms} => g1 _ ?_ (Or.inl n01)⟩
      · unfold cm at z; rw [if_pos n01] at z; omega
      · unfold cm; rw [if_pos n01, if_pos n01]
    · by_cases n02 : τ2 [] = 0
      · refine ⟨_, J, popF, fun z => ?_, fun z {mc ms} => g1 _ ?_ (Or.inr (Or.inl n02))⟩
        · unfold cm at z; rw [if_neg n01, if_pos n02] at z; omega
        · unfold cm; rw [if_neg n01, if_neg n01, if_pos n02, if_pos n02]
      · by_cases heq : τ1 [] = τ2 [] ∧ fl fld τ1 t1 = fl fld τ2 t2
        · have ec : cm fld fty (n + 1) τ1 τ2 t1 t2 p q = cmk (fun k => cm fld fty n (tkid τ1 k) (tkid τ2 k) (kty fty τ1 t1 k) (kty fty τ2 t2 k) (4 * p + k + 1) (4 * q + k + 1)) (fl fld τ1 t1) 0 := by
            rw [cm, if_neg n01, if_neg n02, if_pos heq]
          rw [ec]
          obtain ⟨I1, J1, st1, c1, c2, c3⟩ := @v137_push l X d p q x1 x2 x3 x4 (nI (fl fld τ1 t1)) (fl fld τ1 t1) s (mm_set I 26 10 (nI s)) J (by simp [mm_set]) (by omega)
          have hF := (@popF s I J).trans c3 (Nat.le_refl _)
          obtain ⟨I', J', e1, e2, e3⟩ := @v137_kids l X d p q s x1 x2 x3 x4 n (fun k => cm fld fty n (tkid τ1 k) (tkid τ2 k) (kty fty τ1 t1 k) (kty fty τ2 t2 k) (4 * p + k + 1) (4 * q + k + 1)) I (fl fld τ1 t1)
            (fun k s' I2 J2 hk hI2 q10 q35 q36 qs => by
              obtain ⟨k0, k6, kH⟩ := a5 k hk
              obtain ⟨k0', k6', kH'⟩ := b5 k (by omega)
              obtain ⟨m2, rfl⟩ : ∃ m2, n2 = m2 + 1 := ⟨n2 - 1, by omega⟩
              refine ih m2 _ _ _ _ s' _ _ I2 J2 (by omega) (by omega) (pw4k hn (by omega) hp) (pw4k hn2 (by omega) hq) k6 k6' (hT.of (hI2 27 (by decide)) (hI2 28 (by decide)) (hI2 29 (by decide))) ?_ ?_ q10 q35 q36 qs
              · rw [hI2 33 (by decide), hI2 32 (by decide)]; exact kH
              · rw [hI2 33 (by decide), hI2 32 (by decide)]; exact kH')
            (fl fld τ1 t1) 0 I1 J1 (by omega) (fun r hr => hF.2.1 r hr) c1 (fun j _ hj => c2 j hj) (by omega)
          exact ⟨I', J', hF.trans e1 (Nat.le_refl _), fun z => ⟨(e2 z).1, fun rr => g2 n01 n02 heq (st1 ((e2 z).2 rr))⟩, fun z {mc ms} => g2 n01 n02 heq (st1 (e3 z))⟩
        · refine ⟨_, J, popF, fun z => ?_, fun z {mc ms} => g1 _ ?_ (Or.inr (Or.inr heq))⟩
          · unfold cm at z; rw [if_neg n01, if_neg n02, if_neg heq] at z; omega
          · unfold cm; rw [if_neg n01, if_neg n01, if_neg n02, if_neg n02, if_neg heq]
/-- evaluateSame -/
theorem c137 (hT : TV I 27 28 29 cnt fld fty) (hp : isPb p = true) (hq : isPb q = true) (hn : n ≤ 4) (ht : t < 6) (h : HT false cnt fld fty (I 33) (I 32) (I 32) n τ t 0) :
    ∃ I' J', mm_Call l X 137 (d + 3) [.ref 26, .int (nI p), .int (nI q)] (mm_Λ, I, J) mc ms (.inl (some (.int (nI (svl fld fty n τ t p q))))) (mm_Λ, I', J') ∧ SF [] [] 0 I I' J J' := by
  have hp6 := isPb_lt hp
  have hq6 := isPb_lt hq
  have hW := hT.tw
  have r1 := @c135 l X d I J 0 0 cnt fld fty p t n τ hT hp ht h
  have r2 := @c135 l X d I J 0 0 cnt fld fty q t n τ hT hq ht h
  obtain ⟨a1, a2⟩ := wk_code hW hp ht h
  obtain ⟨b1, b2⟩ := wk_code hW hq ht h
  have bnd1 : (wk fld fty p (stp 4 p) τ t).1 < 1000 := by
    rcases hq : (wk fld fty p (stp 4 p) τ t).1 with _ | _ | r
    · omega
    · omega
    · have := a1 r hq; omega
  have bnd2 : (wk fld fty q (stp 4 q) τ t).1 < 1000 := by
    rcases hq : (wk fld fty q (stp 4 q) τ t).1 with _ | _ | r
    · omega
    · omega
    · have := b1 r hq; omega
  unfold svl
  by_cases h1 : 1 < (wk fld fty p (stp 4 p) τ t).1
  · rw [if_pos h1]
    exact ⟨I, J, b137_0 r1 (b137_5 (fun z => absurd z (nI_ge (a := 1) h1 (by omega))) (fun _ => b137_11)), SF.refl⟩
  · rw [if_neg h1]
    by_cases h2 : 1 < (wk fld fty q (stp 4 q) τ t).1
    · rw [if_pos h2]
      exact ⟨I, J, b137_0 r1 (b137_5 (fun _ => b137_13 r2 (b137_18 (fun z => absurd z (nI_ge (a := 1) h2 (by omega))) (fun _ => b137_26))) (fun z => absurd (nI_le (b := 1) (by omega) (by omega)) z)), SF.refl⟩
    · rw [if_neg h2]
      by_cases h3 : (wk fld fty p (stp 4 p) τ t).1 = 0 ∨ (wk fld fty q (stp 4 q) τ t).1 = 0
      · rw [if_pos h3]
        have s38 : mm_Run l X 137 (d + 3) 38 [.ref 26, .int (nI p), .int (nI q), .int (nI (wk fld fty p (stp 4 p) τ t).1), .int (nI (wk fld fty q (stp 4 q) τ t).1), .null, .null, .null, .null] [] (mm_Λ, I, J) mc ms (.inl (some (.int (nI (if (wk fld fty p (stp 4 p) τ t).1 = (wk fld fty q (stp 4 q) τ t).1 then 1 else 0))))) (mm_Λ, I, J) := by
          refine b137_38 (fun z => ?_) (fun z => ?_)
          · rw [if_neg (fun w => z (by rw [w]))]
            exact b137_48 b137_49
          · rw [if_pos ((nI_eq (by omega) (by omega)).mp (Decidable.not_not.mp z))]
            exact b137_44 b137_49
        refine ⟨I, J, b137_0 r1 (b137_5 (fun _ => b137_13 r2 (b137_18 (fun _ => b137_29 (fun _ => s38) (fun z => b137_33 (fun z1 => ?_) (fun _ => s38))) (fun z => absurd (nI_le (b := 1) (by omega) (by omega)) z))) (fun z => absurd (nI_le (b := 1) (by omega) (by omega)) z)), SF.refl⟩
        rcases h3 with w | w
        · exact absurd (by rw [w]; rfl) z
        · exact absurd (by rw [w]; rfl) z1
      · rw [if_neg h3]
        have w1 : (wk fld fty p (stp 4 p) τ t).1 = 1 := by omega
        have w2 : (wk fld fty q (stp 4 q) τ t).1 = 1 := by omega
        obtain ⟨m1, k6, kH⟩ := a2 w1
        obtain ⟨m2, k6', kH'⟩ := b2 w2
        rw [w1] at r1
        rw [w2] at r2
        have hcall := @c119 l X (d + 2) (mm_set I 26 10 0) J 0 0 0 (nI p) (nI q) 0 (by omega) (by simp [mm_set]; exact nI_0.symm)
        have hpu := @SF.push (mm_set I 26 10 0) J 0 (nI p) (nI q) 0
        have hK : SF [] [] 0 I (mm_set I 26 10 0) J J := ⟨fun i hi => by omega, fun r hr => mm_set_ne (by simp only [List.mem_cons, not_or] at hr; exact hr.1), fun i hi => by simp only [List.mem_cons, List.not_mem_nil, or_false] at hi; simp [mm_set, hi], fun _ _ => rfl⟩
        generalize hKe : mm_set I 26 10 0 = K at hcall hpu hK
        have k10 : (mm_set (mm_set (mm_set K 35 0 (nI p)) 36 0 (nI q)) 26 10 (nI (0 + 1))) 26 10 = nI (0 + 1) := by simp [mm_set]
        have k35 : (mm_set (mm_set (mm_set K 35 0 (nI p)) 36 0 (nI q)) 26 10 (nI (0 + 1))) 35 0 = nI p := by simp [mm_set]
        have k36 : (mm_set (mm_set (mm_set K 35 0 (nI p)) 36 0 (nI q)) 26 10 (nI (0 + 1))) 36 0 = nI q := by simp [mm_set]
        generalize mm_set (mm_set (mm_set K 35 0 (nI p)) 36 0 (nI q)) 26 10 (nI (0 + 1)) = K1 at hcall hpu k10 k35 k36
        have hF := hK.trans hpu (Nat.le_refl _)
        obtain ⟨I', J', e1, e2, e3⟩ := @v137_top l X (d + 2) cnt fld fty (nI p) (nI q) 1 1 (n - stp 4 p) (n - stp 4 q) p q _ _ 0 (wk fld fty p (stp 4 p) τ t).2.1 (wk fld fty q (stp 4 q) τ t).2.1 K1 (mm_set J 37 0 0) (by omega) (by omega) (pz_lt hp m1 hn) (pz_lt hq m2 hn) k6 k6' (hT.of (hF.2.1 27 (by decide)) (hF.2.1 28 (by decide)) (hF.2.1 29 (by decide))) (by rw [hF.2.1 33 (by decide), hF.2.1 32 (by decide)]; exact kH) (by rw [hF.2.1 33 (by decide), hF.2.1 32 (by decide)]; exact kH') k10 k35 k36 (by omega)
        have pre : ∀ {mc ms : Nat} {o : mm_O} {σ' : mm_S}, mm_Run l X 137 (d + 3) 62 [.ref 26, .int (nI p), .int (nI q), .int 1, .int 1, .null, .null, .null, .null] [] (mm_Λ, K1, mm_set J 37 0 0) mc ms o σ' → mm_Call l X 137 (d + 3) [.ref 26, .int (nI p), .int (nI q)] (mm_Λ, I, J) mc ms o σ' := fun rr =>
          b137_0 r1 (b137_5 (fun _ => b137_13 r2 (b137_18 (fun _ => b137_29 (fun z => absurd z (by decide)) (fun _ => b137_33 (fun _ => b137_50 (I1 := K1) (J1 := mm_set J 37 0 0) (by rw [hKe]; exact hcall) rr) (fun z => absurd (by decide) z))) (fun z => absurd (by decide) z))) (fun z => absurd (by decide) z))
        refine ⟨I', J', ?_, hF.trans e1 (Nat.le_refl _)⟩
        by_cases hc : cm fld fty (n - stp 4 p) (wk fld fty p (stp 4 p) τ t).2.1 (wk fld fty q (stp 4 q) τ t).2.1 (wk fld fty p (stp 4 p) τ t).2.2 (wk fld fty q (stp 4 q) τ t).2.2 p q = 1
        · obtain ⟨z1, z2⟩ := e2 hc
          rw [hc]
          exact pre (z2 (b137_62 (fun _ => b137_260) (fun z => absurd (by rw [z1]; decide) z)))
        · exact pre (e3 hc)
end SAME2
