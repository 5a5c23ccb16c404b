/-! ===== constructor: the public method, the law's, the reference's ===== -/
def isF (x : Int32) : Prop := ¬ x < 0 ∧ x ≤ 3
theorem isF_nI {x : Int32} (h : isF x) : ∃ t, t ≤ 3 ∧ x = nI t := by
  obtain ⟨t, h1, rfl⟩ := nI_of h.1
  exact ⟨t, Nat.le_of_not_lt fun q => nI_ge (a := 3) (b := t) q h1 h.2, rfl⟩
/-- which code a call gets -/
def cbar (cnt : Nat → Nat) (x y a b c k : Int32) : Prop :=
  (¬ isT x ∧ k = 1) ∨ (isT x ∧ ¬ isF y ∧ k = 2) ∨ (isT x ∧ isF y ∧ ∃ t m, t < 6 ∧ m ≤ 3 ∧ x = nI t ∧ y = nI m ∧
    ((¬ knw m a b c ∧ k = 1) ∨ (knw m a b c ∧ ¬ non m a b c ∧ k = 2) ∨ (knw m a b c ∧ non m a b c ∧ cnt t = 4 ∧ k = 3) ∨ (knw m a b c ∧ non m a b c ∧ cnt t < 4 ∧ k = 0)))
theorem cbar_ex (cnt : Nat → Nat) (hc : ∀ t, t < 6 → cnt t ≤ 4) (x y a b c : Int32) : ∃ k, cbar cnt x y a b c k := by
  by_cases h : isT x
  · by_cases h1 : isF y
    · obtain ⟨t, ht, rfl⟩ := isT_nI h
      obtain ⟨m, hm, rfl⟩ := isF_nI h1
      by_cases h2 : knw m a b c
      · by_cases h3 : non m a b c
        · by_cases h4 : cnt t = 4
          · exact ⟨3, Or.inr (Or.inr ⟨h, h1, t, m, ht, hm, rfl, rfl, Or.inr (Or.inr (Or.inl ⟨h2, h3, h4, rfl⟩))⟩)⟩
          · have := hc t ht
            exact ⟨0, Or.inr (Or.inr ⟨h, h1, t, m, ht, hm, rfl, rfl, Or.inr (Or.inr (Or.inr ⟨h2, h3, by omega, rfl⟩))⟩)⟩
        · exact ⟨2, Or.inr (Or.inr ⟨h, h1, t, m, ht, hm, rfl, rfl, Or.inr (Or.inl ⟨h2, h3, rfl⟩)⟩)⟩
      · exact ⟨1, Or.inr (Or.inr ⟨h, h1, t, m, ht, hm, rfl, rfl, Or.inl ⟨h2, rfl⟩⟩)⟩
    · exact ⟨2, Or.inr (Or.inl ⟨h, h1, rfl⟩)⟩
  · exact ⟨1, Or.inl ⟨h, rfl⟩⟩
/-- the class's tables are right for these types -/
def TC (cnt fld fty : Nat → Nat) (J : Nat → Nat → Int64) : Prop :=
  (∀ e t, e < 5 → t < 6 → J 6 (5 * t + e) = DT cnt fld fty (e + 1) t ∧ ∀ c, c < cnt t → J 7 (5 * (4 * t + c) + e) = DF cnt fld fty e (4 * t + c)) ∧
  (∀ s t, 1 ≤ s → s ≤ 12 → t < 6 → J 9 (13 * t + s) = lN (SN cnt fld fty s t)) ∧
  (∀ m t c k, m < 12 → t < 6 → c < cnt t → k ≤ fld (4 * t + c) → J 10 (13 * (4 * (4 * t + c) + k) + m) = lN (wW (SN cnt fld fty) fld fty (4 * t + c) (fld (4 * t + c) - k) m))
section CTOR2
variable {l : Launch} {X : Nat × (Nat → Int32)} {d : Nat} {I : Nat → Nat → Int32} {J : Nat → Nat → Int64} {mc ms : Nat} {cnt fld fty : Nat → Nat} {x y a b c k : Int32}
theorem c16_pre {t m : Nat} {o : mm_O} {σ' : mm_S} (h1 : isT (nI t)) (h2 : isF (nI m)) (hm : m ≤ 3)
    (hr : mm_Run l X 16 (d + 2) 23 [.ref 0, .int (nI t), .int (nI m), .int a, .int b, .int c, .null] [] (mm_Λ, I, J) mc ms o σ') : mm_Call l X 16 (d + 2) [.ref 0, .int (nI t), .int (nI m), .int a, .int b, .int c] (mm_Λ, I, J) mc ms o σ' :=
  b16_0 (c17_ok h1) (b16_4 (fun q => absurd q h2.1) (fun _ => b16_8 (fun _ => hr) (fun q => absurd h2.2 q)))
theorem h_ctor (hT : TV I 2 3 4 cnt fld fty) (h : cbar cnt x y a b c k) : ∃ I1 J1, mm_Call l X 15 (d + 5) [.ref 0, .int x, .int y, .int a, .int b, .int c, .ref 45] (mm_Λ, I, J) 1 6 (.inl (some (.int k))) (mm_Λ, I1, J1) ∧
    (∀ p, p ≠ 2 → p ≠ 3 → p ≠ 4 → I1 p = I p) ∧ (∀ p, p ≠ 6 → p ≠ 7 → p ≠ 9 → p ≠ 10 → p ≠ 45 → J1 p = J p) ∧ (k ≠ 0 → I1 = I ∧ J1 = J) ∧
    (k = 0 → ∃ t m v, t < 6 ∧ m ≤ 3 ∧ x = nI t ∧ y = nI m ∧ cnt t < 4 ∧ (∀ i, i < m → v i < 6 ∧ ax a b c i = nI (v i)) ∧ TV I1 2 3 4 (addN cnt t) (addF fld (4 * t + cnt t) m) (addT fty (4 * t + cnt t) v) ∧ TC (addN cnt t) (addF fld (4 * t + cnt t) m) (addT fty (4 * t + cnt t) v) J1 ∧ J1 45 0 = (nI (cnt t)).toInt64) := by
  rcases h with ⟨h1, rfl⟩ | ⟨h1, h2, rfl⟩ | ⟨h1, h2, t, m, ht, hm, rfl, rfl, h⟩
  · exact ⟨I, J, b15_0c0 (mc := 0) (ms := 0) (b16_0t (c17_no h1)) b15_19, fun _ _ _ _ => rfl, fun _ _ _ _ _ _ => rfl, fun _ => ⟨rfl, rfl⟩, fun q => absurd q (by decide)⟩
  · refine ⟨I, J, b15_0c1 (mc := 0) (ms := 0) (b16_0 (c17_ok h1) (b16_4 (fun _ => b16_13) (fun q => b16_8 (fun q1 => absurd ⟨q, q1⟩ h2) (fun _ => b16_13)))) b15_23, fun _ _ _ _ => rfl, fun _ _ _ _ _ _ => rfl, fun _ => ⟨rfl, rfl⟩, fun q => absurd q (by decide)⟩
  · rcases h with ⟨h3, rfl⟩ | ⟨h3, h4, rfl⟩ | ⟨h3, h4, h5, rfl⟩ | ⟨h3, h4, h5, rfl⟩
    · exact ⟨I, J, b15_0c0 (mc := 0) (ms := 0) (c16_pre h1 h2 hm (b16_23t (c18_n hm h3))) b15_19, fun _ _ _ _ => rfl, fun _ _ _ _ _ _ => rfl, fun _ => ⟨rfl, rfl⟩, fun q => absurd q (by decide)⟩
    · exact ⟨I, J, b15_0c1 (mc := 0) (ms := 0) (c16_pre h1 h2 hm (b16_23t (c18_k hm h3 (c18_26n hm h4)))) b15_23, fun _ _ _ _ => rfl, fun _ _ _ _ _ _ => rfl, fun _ => ⟨rfl, rfl⟩, fun q => absurd q (by decide)⟩
    · exact ⟨I, J, b15_0c2 (mc := 0) (ms := 0) (c16_pre h1 h2 hm (b16_23 (c18_k hm h3 (c18_26 hm h4)) (b16_32 (c19T hT ht) (b16_40 (fun q => absurd q (nI_nlt (b := 4) (by omega) (by omega))) (fun _ => b16_44))))) b15_27, fun _ _ _ _ => rfl, fun _ _ _ _ _ _ => rfl, fun _ => ⟨rfl, rfl⟩, fun q => absurd q (by decide)⟩
    · obtain ⟨v, hv⟩ := knw_v hm h3
      obtain ⟨I1, r1, f1, hT1⟩ := @c20 l X (d + 2) I J 0 0 cnt fld fty a b c hT t m v ht h5 hm hv
      obtain ⟨J1, r2, hD⟩ := @c22 l X d I1 J 0 0 _ _ _ hT1
      obtain ⟨J2, r3, hS⟩ := @c30 l X d I1 J1 0 0 _ _ _ hT1
      have rr : mm_Call l X 16 (d + 4) [.ref 0, .int (nI t), .int (nI m), .int a, .int b, .int c] (mm_Λ, I, J) 0 0 (.inl (some (.int (nI (cnt t))))) (mm_Λ, I1, J2) :=
        c16_pre h1 h2 hm (b16_23 (c18_k hm h3 (c18_26 hm h4)) (b16_32 (c19T hT ht) (b16_40 (fun _ => b16_54 r1 (b16_68 r2 (b16_77 r3 b16_84))) (fun q => absurd (nI_lt (b := 4) (by omega) (by omega)) q))))
      refine ⟨I1, mm_set J2 45 0 (nI (cnt t)).toInt64, b15_0 rr (b15_14 (by unfold vp_in; decide) b15_31), f1, fun p h6 h7 h9 h10 h45 => by rw [mm_set_ne h45, hS.1 p h9 h10, hD.1 p h6 h7], fun q => absurd rfl q, fun _ => ⟨t, m, v, ht, hm, rfl, rfl, h5, hv, hT1, ?_, mm_at⟩⟩
      refine ⟨fun e u he hu => ?_, fun s u h1 h2 h3 => ?_, fun w u c' k h1 h2 h3 h4 => ?_⟩
      · rw [mm_set_ne (by decide), mm_set_ne (by decide), hS.1 6 (by decide) (by decide), hS.1 7 (by decide) (by decide)]
        exact hD.2 e u he hu (Or.inl he)
      · rw [mm_set_ne (by decide)]
        exact hS.2.1 s u h1 h2 h3 (Or.inl h2)
      · rw [mm_set_ne (by decide)]
        exact hS.2.2 w u c' k h1 h2 h3 h4 (Or.inl h1)
theorem m_set2 {I' : Nat → Nat → Int32} {k : Int32} (h : I' = mm_set (mm_set I 26 0 0) 26 0 k) : (∀ p, p ≠ 26 → I' p = I p) ∧ I' 26 0 = k ∧ ∀ i, i ≠ 0 → I' 26 i = I 26 i := by
  subst h
  refine ⟨fun p hp => by rw [mm_set_ne hp, mm_set_ne hp], mm_at, fun i hi => by simp [mm_set, hi]⟩
theorem jx12 (t c : Nat) : 12 * nI t + 3 * nI c = nI (3 * (4 * t + c)) := by
  rw [show (12 : Int32) = nI 12 from rfl, show (3 : Int32) = nI 3 from rfl, nI_mul, nI_mul, nI_add]
  congr 1; omega
/-- from where the reference has found that the field types are known or not -/
theorem c101_79 {t m : Nat} {s : Int32} {o : mm_O} {σ' : mm_S} (hm : m ≤ 3) (hr : ∀ z : Int32, (non m a b c ∧ z = 1 ∨ ¬ non m a b c ∧ z = 0) → mm_Run l X 101 (d + 1) 117 [.ref 26, .int (nI t), .int (nI m), .int a, .int b, .int c, .int s, .null] [.int z] (mm_Λ, I, J) mc ms o σ') :
    mm_Run l X 101 (d + 1) 79 [.ref 26, .int (nI t), .int (nI m), .int a, .int b, .int c, .null, .null] [.int s] (mm_Λ, I, J) mc ms o σ' := by
  by_cases hn : non m a b c
  · have s112 := b101_112 (hr 1 (Or.inl ⟨hn, rfl⟩))
    have s101 := b101_101 (fun _ => s112) (fun h => b101_106 (fun q => absurd (hn.2.2 (Nat.lt_of_not_le fun z => h (nI_lt (a := 2) z (by omega)))) q) (fun _ => s112))
    have s90 := b101_90 (fun _ => s101) (fun h => b101_95 (fun q => absurd (hn.2.1 (Nat.lt_of_not_le fun z => h (nI_lt (a := 1) z (by omega)))) q) (fun _ => s101))
    exact b101_79 (fun _ => s90) (fun h => b101_85 (fun q => absurd (hn.1 (Nat.lt_of_not_le fun z => h (by rw [← nI_0]; exact nI_lt (a := 0) z (by omega)))) q) (fun _ => s90))
  · have s116 := b101_116 (hr 0 (Or.inr ⟨hn, rfl⟩))
    by_cases h1 : m < 1 → a = -1
    · by_cases h2 : m < 2 → b = -1
      · have h3 : ¬ (m < 3 → c = -1) := fun q => hn ⟨h1, h2, q⟩
        have hm3 : m < 3 := Decidable.byContradiction fun q => h3 (fun z => absurd z q)
        have hc : ¬ c = -1 := fun q => h3 fun _ => q
        have s101 := b101_101 (x1 := nI t) (x2 := nI m) (x3 := a) (x4 := b) (x5 := c) (x6 := s) (fun h => absurd h (nI_nlt (a := 2) (by omega) (by omega))) (fun h => b101_106 (fun _ => s116) (fun q => absurd q (fun z => z hc)))
        have s90 := b101_90 (fun _ => s101) (fun h => b101_95 (fun _ => s116) (fun _ => s101))
        exact b101_79 (fun _ => s90) (fun h => b101_85 (fun _ => s116) (fun _ => s90))
      · have hm2 : m < 2 := Decidable.byContradiction fun q => h2 (fun z => absurd z q)
        have hb : ¬ b = -1 := fun q => h2 fun _ => q
        have s90 := b101_90 (x1 := nI t) (x2 := nI m) (x3 := a) (x4 := b) (x5 := c) (x6 := s) (fun h => absurd h (nI_nlt (a := 1) (by omega) (by omega))) (fun h => b101_95 (fun _ => s116) (fun q => absurd q (fun z => z hb)))
        exact b101_79 (fun _ => s90) (fun h => b101_85 (fun _ => s116) (fun _ => s90))
    · have hm1 : m < 1 := Decidable.byContradiction fun q => h1 (fun z => absurd z q)
      have ha : ¬ a = -1 := fun q => h1 fun _ => q
      exact b101_79 (fun h => absurd h (by rw [← nI_0]; exact nI_nlt (a := 0) (by omega) (by omega))) (fun h => b101_85 (fun _ => s116) (fun q => absurd q (fun z => z ha)))
theorem c101_36 {t m : Nat} {o : mm_O} {σ' : mm_S} (hm : m ≤ 3) (hr : ∀ z : Int32, (knw m a b c ∧ z = 1 ∨ ¬ knw m a b c ∧ z = 0) → mm_Run l X 101 (d + 1) 79 [.ref 26, .int (nI t), .int (nI m), .int a, .int b, .int c, .null, .null] [.int z] (mm_Λ, I, J) mc ms o σ') :
    mm_Run l X 101 (d + 1) 36 [.ref 26, .int (nI t), .int (nI m), .int a, .int b, .int c, .null, .null] [] (mm_Λ, I, J) mc ms o σ' := by
  by_cases hn : knw m a b c
  · have s74 := b101_74 (hr 1 (Or.inl ⟨hn, rfl⟩))
    have s61 := b101_61 (fun _ => s74) (fun h => b101_66 (c102_ok (hn.2.2 (Nat.lt_of_not_le fun z => h (nI_lt (b := 3) (by omega) (by omega))))) (b101_71 (fun q => absurd q (by decide)) (fun _ => s74)))
    have s48 := b101_48 (fun _ => s61) (fun h => b101_53 (c102_ok (hn.2.1 (Nat.lt_of_not_le fun z => h (nI_lt (b := 2) (by omega) (by omega))))) (b101_58 (fun q => absurd q (by decide)) (fun _ => s61)))
    exact b101_36 (fun _ => s48) (fun h => b101_41 (c102_ok (hn.1 (Nat.lt_of_not_le fun z => h (nI_lt (b := 1) (by omega) (by omega))))) (b101_45 (fun q => absurd q (by decide)) (fun _ => s48)))
  · have s78 := b101_78 (hr 0 (Or.inr ⟨hn, rfl⟩))
    by_cases h1 : 0 < m → isT a
    · by_cases h2 : 1 < m → isT b
      · have h3 : ¬ (2 < m → isT c) := fun q => hn ⟨h1, h2, q⟩
        have hm3 : 2 < m := Decidable.byContradiction fun q => h3 (fun z => absurd z q)
        have hc : ¬ isT c := fun q => h3 fun _ => q
        have s61 := b101_61 (x1 := nI t) (x2 := nI m) (x3 := a) (x4 := b) (x5 := c) (fun h => absurd h (nI_nlt (b := 3) (by omega) (by omega))) (fun _ => b101_66 (c102_no hc) (b101_71 (fun _ => s78) (fun q => absurd rfl q)))
        have s48 := b101_48 (fun h => absurd h (nI_nlt (b := 2) (by omega) (by omega))) (fun _ => b101_53 (c102_ok (h2 (by omega))) (b101_58 (fun q => absurd q (by decide)) (fun _ => s61)))
        exact b101_36 (fun h => absurd h (nI_nlt (b := 1) (by omega) (by omega))) (fun _ => b101_41 (c102_ok (h1 (by omega))) (b101_45 (fun q => absurd q (by decide)) (fun _ => s48)))
      · have hm2 : 1 < m := Decidable.byContradiction fun q => h2 (fun z => absurd z q)
        have hb : ¬ isT b := fun q => h2 fun _ => q
        have s48 := b101_48 (x1 := nI t) (x2 := nI m) (x3 := a) (x4 := b) (x5 := c) (fun h => absurd h (nI_nlt (b := 2) (by omega) (by omega))) (fun _ => b101_53 (c102_no hb) (b101_58 (fun _ => s78) (fun q => absurd rfl q)))
        exact b101_36 (fun h => absurd h (nI_nlt (b := 1) (by omega) (by omega))) (fun _ => b101_41 (c102_ok (h1 (by omega))) (b101_45 (fun q => absurd q (by decide)) (fun _ => s48)))
    · have hm1 : 0 < m := Decidable.byContradiction fun q => h1 (fun z => absurd z q)
      have ha : ¬ isT a := fun q => h1 fun _ => q
      exact b101_36 (fun h => absurd h (nI_nlt (b := 1) (by omega) (by omega))) (fun _ => b101_41 (c102_no ha) (b101_45 (fun _ => s78) (fun q => absurd rfl q)))
theorem m_ctor (hT : TV I 27 28 29 cnt fld fty) (h : cbar cnt x y a b c k) : ∃ r I1, mm_Call l X 101 (d + 1) [.ref 26, .int x, .int y, .int a, .int b, .int c] (mm_Λ, I, J) mc ms (.inl (some (.int r))) (mm_Λ, I1, J) ∧ I1 26 0 = k ∧
    (∀ p, p ≠ 26 → p ≠ 27 → p ≠ 28 → p ≠ 29 → I1 p = I p) ∧ (∀ i, i ≠ 0 → I1 26 i = I 26 i) ∧ (k ≠ 0 → ∀ p, p ≠ 26 → I1 p = I p) ∧
    (k = 0 → ∀ t m v, t < 6 → m ≤ 3 → x = nI t → y = nI m → cnt t < 4 → (∀ i, i < m → v i < 6 ∧ ax a b c i = nI (v i)) → TV I1 27 28 29 (addN cnt t) (addF fld (4 * t + cnt t) m) (addT fty (4 * t + cnt t) v) ∧ r = nI (cnt t)) := by
  rcases h with ⟨h1, rfl⟩ | ⟨h1, h2, rfl⟩ | ⟨h1, h2, t, m, ht, hm, rfl, rfl, h⟩
  · refine ⟨0, mm_set I 26 0 1, b101_0 (c102_no h1) (b101_5 (fun q => absurd rfl q) (fun _ => b101_8 (b101_26 (fun _ => b101_156 (fun q => absurd q (by rw [mm_at]; decide)) (fun _ => b101_163)) (fun q => absurd (by rw [mm_at]; decide) q)))), mm_at, fun p hp _ _ _ => mm_set_ne hp, fun i hi => by simp [mm_set, hi], fun _ p hp => mm_set_ne hp, fun q => absurd q (by decide)⟩
  · have s21 : mm_Run l X 101 (d + 1) 21 [.ref 26, .int x, .int y, .int a, .int b, .int c, .null, .null] [.ref 26] (mm_Λ, I, J) mc ms (.inl (some (.int 0))) (mm_Λ, mm_set I 26 0 2, J) := b101_21 (b101_26 (fun _ => b101_156 (fun q => absurd q (by rw [mm_at]; decide)) (fun _ => b101_163)) (fun q => absurd (by rw [mm_at]; decide) q))
    exact ⟨0, mm_set I 26 0 2, b101_0 (c102_ok h1) (b101_5 (fun _ => b101_12 (fun _ => s21) (fun q => b101_16 (fun q1 => absurd ⟨q, q1⟩ h2) (fun _ => s21))) (fun q => absurd (by decide) q)), mm_at, fun p hp _ _ _ => mm_set_ne hp, fun i hi => by simp [mm_set, hi], fun _ p hp => mm_set_ne hp, fun q => absurd q (by decide)⟩
  · have hI : ∀ {I' : Nat → Nat → Int32}, I' 27 = I 27 → I' 27 (nI t).toNatClampNeg = nI (cnt t) := fun e => by rw [e, ix_cl (by omega)]; exact (hT.1 t ht).1
    have start : ∀ {o : mm_O} {σ' : mm_S}, mm_Run l X 101 (d + 1) 36 [.ref 26, .int (nI t), .int (nI m), .int a, .int b, .int c, .null, .null] [] (mm_Λ, mm_set I 26 0 0, J) mc ms o σ' → mm_Call l X 101 (d + 1) [.ref 26, .int (nI t), .int (nI m), .int a, .int b, .int c] (mm_Λ, I, J) mc ms o σ' := fun r =>
      b101_0 (c102_ok h1) (b101_5 (fun _ => b101_12 (fun q => absurd q h2.1) (fun _ => b101_16 (fun _ => b101_25 (b101_26 (fun q => absurd mm_at q) (fun _ => r))) (fun q => absurd h2.2 q))) (fun q => absurd (by decide) q))
    have endk : ∀ {s z k : Int32}, k = 1 ∨ k = 2 ∨ k = 3 → mm_Run l X 101 (d + 1) 153 [.ref 26, .int (nI t), .int (nI m), .int a, .int b, .int c, .int s, .int z] [.int k, .ref 26] (mm_Λ, mm_set I 26 0 0, J) mc ms (.inl (some (.int 0))) (mm_Λ, mm_set (mm_set I 26 0 0) 26 0 k, J) := fun hk =>
      b101_153 (b101_156 (fun q => absurd q (by rw [mm_at]; rcases hk with rfl | rfl | rfl <;> decide)) (fun _ => b101_163))
    rcases h with ⟨h3, rfl⟩ | ⟨h3, h4, rfl⟩ | ⟨h3, h4, h5, rfl⟩ | ⟨h3, h4, h5, rfl⟩
    · obtain ⟨q1, q2, q3⟩ := @m_set2 I _ 1 rfl
      refine ⟨0, _, start (c101_36 hm fun z hz => c101_79 hm fun w hw => b101_117 (fun q => ?_) (fun _ => b101_125 (endk (Or.inl rfl)))), q2, fun p hp _ _ _ => q1 p hp, q3, fun _ p hp => q1 p hp, fun q => absurd q (by decide)⟩
      rcases hz with ⟨hz, -⟩ | ⟨-, rfl⟩
      · exact absurd hz h3
      · exact absurd rfl q
    · obtain ⟨q1, q2, q3⟩ := @m_set2 I _ 2 rfl
      refine ⟨0, _, start (c101_36 hm fun z hz => c101_79 hm fun w hw => b101_117 (fun _ => b101_129 (fun q => ?_) (fun _ => b101_134 (endk (Or.inr (Or.inl rfl))))) (fun q => ?_)), q2, fun p hp _ _ _ => q1 p hp, q3, fun _ p hp => q1 p hp, fun q => absurd q (by decide)⟩
      · rcases hw with ⟨hw, -⟩ | ⟨-, rfl⟩
        · exact absurd hw h4
        · exact absurd rfl q
      · rcases hz with ⟨-, rfl⟩ | ⟨hz, -⟩
        · exact absurd (by decide) q
        · exact absurd h3 hz
    · obtain ⟨q1, q2, q3⟩ := @m_set2 I _ 3 rfl
      have h27 : mm_set I 26 0 0 27 = I 27 := mm_set_ne (by decide)
      refine ⟨0, _, start (c101_36 hm fun z hz => c101_79 hm fun w hw => b101_117 (fun _ => b101_129 (fun _ => b101_138 (ix_in ht (by omega)) (fun q => ?_) (fun _ => b101_148 (endk (Or.inr (Or.inr rfl))))) (fun q => ?_)) (fun q => ?_)), q2, fun p hp _ _ _ => q1 p hp, q3, fun _ p hp => q1 p hp, fun q => absurd q (by decide)⟩
      · exact absurd (by rw [hI h27, h5]; rfl) q
      · rcases hw with ⟨-, rfl⟩ | ⟨hw, -⟩
        · exact absurd (by decide) q
        · exact absurd h4 hw
      · rcases hz with ⟨-, rfl⟩ | ⟨hz, -⟩
        · exact absurd (by decide) q
        · exact absurd h3 hz
    · obtain ⟨q1, q2, q3⟩ := @m_set2 I _ 0 rfl
      have h27 : mm_set I 26 0 0 27 = I 27 := mm_set_ne (by decide)
      have hJ : mm_set (mm_set I 26 0 0) 26 0 0 27 (nI t).toNatClampNeg = nI (cnt t) := hI (q1 27 (by decide))
      have e12 := jx12 t (cnt t)
      have r := @b101_165 l X d (mm_set (mm_set I 26 0 0) 26 0 0) J (nI t) (nI m) a b c mc ms (ix_in ht (by omega)) (by rw [hJ, jx4]; exact ix_in (by omega) (by omega)) (by rw [hJ, e12]; exact ix_in (by omega) (by omega)) (by rw [hJ, e12, nI_1]; exact ix_in (by omega) (by omega))
        (by rw [hJ, e12, show (2 : Int32) = nI 2 from rfl, nI_add]; exact ix_in (by omega) (by omega)) (ix_in ht (by omega)) (ix_in ht (by omega))
      rw [hJ, jx4, e12, show (2 : Int32) = nI 2 from rfl, nI_add, nI_1, ix_cl (by omega), ix_cl (by omega), ix_cl (by omega), ix_cl (by omega), ix_cl (by omega)] at r
      have s156 := b101_156 (fun _ => r) (fun q => absurd (by rw [q2]; decide) q)
      have rr := start (c101_36 hm fun z hz => c101_79 hm fun w hw => b101_117 (fun _ => b101_129 (fun _ => b101_138 (ix_in ht (by omega)) (fun _ => b101_152 (b101_153 s156)) (fun q => absurd (fun z => by rw [hI h27] at z; exact absurd ((nI_eq (b := 4) (by omega) (by omega)).mp z) (by omega)) q))
        (fun q => by
          rcases hw with ⟨-, rfl⟩ | ⟨hw, -⟩
          · exact absurd (by decide) q
          · exact absurd h4 hw)) (fun q => by
        rcases hz with ⟨-, rfl⟩ | ⟨hz, -⟩
        · exact absurd (by decide) q
        · exact absurd h3 hz))
      refine ⟨_, _, rr, ?_, ?_, ?_, fun q => absurd rfl q, ?_⟩
      · simp [mm_set, q2]
      · intro p h26 h27 h28 h29
        rw [mm_set_ne h27, mm_set_ne h29, mm_set_ne h29, mm_set_ne h29, mm_set_ne h28]
        exact q1 p h26
      · intro i hi
        rw [mm_set_ne (by decide), mm_set_ne (by decide), mm_set_ne (by decide), mm_set_ne (by decide), mm_set_ne (by decide)]
        exact q3 i hi
      · intro _ t' m' v ht' hm' ex ey hc' hv
        have e1 : t = t' := (nI_eq (by omega) (by omega)).mp ex
        have e2 : m = m' := (nI_eq (by omega) (by omega)).mp ey
        subst e1; subst e2
        have hT1 : TV (mm_set (mm_set I 26 0 0) 26 0 0) 27 28 29 cnt fld fty := by
          refine ⟨?_, ?_, ?_⟩
          · rw [q1 27 (by decide)]; exact hT.1
          · rw [q1 28 (by decide)]; exact hT.2.1
          · rw [q1 29 (by decide)]; exact hT.2.2
        refine ⟨TV_add hT1 ht h5 hm hv ?_ ?_ ?_, rfl⟩
        · intro j
          have hj : I 27 t = nI (cnt t) := (hT.1 t ht).1
          simp [mm_set, hj, nI_1]
        · intro j; simp [mm_set]
        · intro j; simp [mm_set]
end CTOR2
