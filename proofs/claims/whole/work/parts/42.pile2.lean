/-! ===== same, combine, discard, shown, evaluated, passed ===== -/
section PILE2
variable {l : Launch} {X : Nat × (Nat → Int32)} {d : Nat} {I : Nat → Nat → Int32} {J : Nat → Nat → Int64} {mc ms : Nat} {n h : Nat} {kd fa fb ly : Nat → Nat} {x y k : Int32}
theorem h_same (hP : PC n h kd fa fb ly I) (hh : h ≤ n) (hb : ebar n x y k) : ∃ I1 J1, mm_Call l X 70 (d + 3) [.ref 0, .int x, .int y, .ref 45] (mm_Λ, I, J) 1 6 (.inl (some (.int k))) (mm_Λ, I1, J1) ∧ (k ≠ 0 → I1 = I ∧ J1 = J) ∧
    (k = 0 → n < 20 ∧ ∃ a b, isPb a = true ∧ isPb b = true ∧ x = nI a ∧ y = nI b ∧ PutC n h h 4 kd fa fb ly a b I I1 J J1) := by
  rcases hb with ⟨h1, rfl⟩ | ⟨h1, h2, h3, rfl⟩ | ⟨h1, h2, h3, rfl⟩
  · refine ⟨I, J, b70_0c1 (mc := 0) (ms := 0) ?_ b70_13, fun _ => ⟨rfl, rfl⟩, fun q => absurd q (by decide)⟩
    by_cases hx : isPx x
    · exact b71_0 (c65_ok hx) (b71_4t (c65_no fun q => h1 ⟨hx, q⟩))
    · exact b71_0t (c65_no hx)
  · exact ⟨I, J, b70_0c2 (mc := 0) (ms := 0) (b71_0 (c65_ok h1) (b71_4 (c65_ok h2) (b71_8t (c67_no hP.1 h3)))) b70_17, fun _ => ⟨rfl, rfl⟩, fun q => absurd q (by decide)⟩
  · obtain ⟨a, ha, rfl, hpa⟩ := id h1
    obtain ⟨b, hb, rfl, hpb⟩ := id h2
    obtain ⟨I1, r, hP1, hf⟩ := @c69 l X (d + 1) I J 0 0 n h kd fa fb ly hP h3 (by omega) 4 a b
    exact ⟨I1, mm_set J 45 0 (nI (h + 1)).toInt64, b70_0 (b71_0 (c65_ok h1) (b71_4 (c65_ok h2) (b71_8 (c67_ok hP.1 h3) (b71_12 r b71_22)))) (b70_8 (by unfold vp_in; decide) b70_21), fun q => absurd rfl q, fun _ => ⟨h3, a, b, hpa, hpb, rfl, rfl, hP1, hf, rfl⟩⟩
theorem m_same (hP : PM n h kd fa fb ly I) (hh : h ≤ n) (hb : ebar n x y k) : ∃ r I1, mm_Call l X 129 (d + 2) [.ref 26, .int x, .int y] (mm_Λ, I, J) mc ms (.inl (some (.int r))) (mm_Λ, I1, J) ∧ I1 26 0 = k ∧ (k ≠ 0 → (∀ p, p ≠ 26 → I1 p = I p) ∧ ∀ i, i ≠ 0 → I1 26 i = I 26 i) ∧
    (k = 0 → r = nI (h + 1) ∧ ∀ a b, a < 256 → b < 256 → x = nI a → y = nI b → PutM n h h 4 kd fa fb ly a b I I1) := by
  have bad : ∀ k : Int32, ¬ k ≤ 0 → mm_Run l X 129 (d + 2) 33 [.ref 26, .int x, .int y] [.int k, .ref 26] (mm_Λ, I, J) mc ms (.inl (some (.int 0))) (mm_Λ, mm_set I 26 0 k, J) := fun k hk => b129_33 (fun q => absurd q hk) (fun _ => b129_43 b129_54)
  have fr : ∀ k : Int32, (∀ p, p ≠ 26 → mm_set I 26 0 k p = I p) ∧ ∀ i, i ≠ 0 → mm_set I 26 0 k 26 i = I 26 i := fun k => ⟨fun p hp => mm_set_ne hp, fun i hi => by simp [mm_set, hi]⟩
  rcases hb with ⟨h1, rfl⟩ | ⟨h1, h2, h3, rfl⟩ | ⟨h1, h2, h3, rfl⟩
  · refine ⟨0, _, ?_, mm_at, fun _ => fr 1, fun q => absurd q (by decide)⟩
    have s15 := b129_15 (bad 1 (by decide))
    by_cases hx : isPx x
    · exact b129_0 (c127_ok hx) (b129_5 (fun q => absurd q (by decide)) (fun _ => b129_8 (c127_no fun q => h1 ⟨hx, q⟩) (b129_12 (fun q => absurd rfl q) (fun _ => s15))))
    · exact b129_0 (c127_no hx) (b129_5 (fun _ => s15) (fun q => absurd rfl q))
  · exact ⟨0, _, b129_0 (c127_ok h1) (b129_5 (fun q => absurd q (by decide)) (fun _ => b129_8 (c127_ok h2) (b129_12 (fun _ => b129_19 (fun q => absurd (by rw [hP.1, h3]; rfl) q) (fun _ => b129_28 (bad 2 (by decide)))) (fun q => absurd (by decide) q)))), mm_at, fun _ => fr 2, fun q => absurd q (by decide)⟩
  · obtain ⟨a, ha, rfl, hpa⟩ := id h1
    obtain ⟨b, hb, rfl, hpb⟩ := id h2
    obtain ⟨I1, r, hP1, hf, hg⟩ := @c128 l X (d + 1) (mm_set I 26 0 0) J 0 0 n h kd fa fb ly hP.thrown h3 (by omega) 4 a b
    refine ⟨nI (h + 1), I1, b129_0 (c127_ok h1) (b129_5 (fun q => absurd q (by decide)) (fun _ => b129_8 (c127_ok h2) (b129_12 (fun _ => b129_19 (fun _ => b129_32 (b129_33 (fun _ => b129_47 r b129_54) (fun q => absurd (by decide) q))) (fun q => absurd (fun z => by rw [hP.1] at z; exact absurd ((nI_eq (b := 20) (by omega) (by omega)).mp z) (by omega)) q)) (fun q => absurd (by decide) q)))), ?_, fun q => absurd rfl q, fun _ => ⟨rfl, fun a' b' ha' hb' ex ey => ?_⟩⟩
    · rw [hg 0 (by decide) (by decide)]; exact mm_at
    · have e1 : a = a' := (nI_eq (by omega) (by omega)).mp ex
      have e2 : b = b' := (nI_eq (by omega) (by omega)).mp ey
      subst e1; subst e2
      refine ⟨hP1, fun p hp => ?_, fun i h0 h14 h19 => by rw [hg i h14 h19]; simp [mm_set, h0]⟩
      rw [hf p hp, mm_set_ne (by simp only [List.mem_cons, not_or] at hp; exact hp.1)]
/-! combine -/
def opn (q : Nat) : Nat := if q = 2 then 1 else 2
def is3 (x : Int32) : Prop := ¬ x < 0 ∧ x ≤ 2
theorem is3_nI (hx : is3 x) : ∃ t, t < 3 ∧ x = nI t := by
  obtain ⟨t, h1, rfl⟩ := nI_of hx.1
  exact ⟨t, Nat.lt_of_not_le fun q => nI_ge (a := 2) (b := t) (by omega) h1 hx.2, rfl⟩
theorem is3_of {q : Nat} (h : q < 3) : is3 (nI q) := ⟨nI_pos (by omega), nI_le (b := 2) (by omega) (by omega)⟩
def jbar (n h : Nat) (x k : Int32) : Prop := (¬ is3 x ∧ k = 1) ∨ (∃ q, q < 3 ∧ x = nI q ∧ (h < opn q ∨ n = 20) ∧ k = 2) ∨ (∃ q, q < 3 ∧ x = nI q ∧ opn q ≤ h ∧ n < 20 ∧ k = 0)
theorem jbar_ex (hn : n ≤ 20) (x : Int32) : ∃ k, jbar n h x k := by
  by_cases h1 : is3 x
  · obtain ⟨q, hq, e⟩ := is3_nI h1
    by_cases h2 : h < opn q ∨ n = 20
    · exact ⟨2, Or.inr (Or.inl ⟨q, hq, e, h2, rfl⟩)⟩
    · exact ⟨0, Or.inr (Or.inr ⟨q, hq, e, by omega, by omega, rfl⟩)⟩
  · exact ⟨1, Or.inl ⟨h1, rfl⟩⟩
theorem opn_le (q : Nat) : 1 ≤ opn q ∧ opn q ≤ 2 := by unfold opn; split <;> omega
theorem c75 {q : Nat} (hq : q < 3) : mm_Call l X 75 d [.int (nI q)] (mm_Λ, I, J) mc ms (.inl (some (.int (nI (opn q))))) (mm_Λ, I, J) := by
  unfold opn
  by_cases h : q = 2
  · subst h
    exact b75_0 (fun z => absurd rfl z) (fun _ => b75_5 b75_10)
  · rw [if_neg h]
    exact b75_0 (fun _ => b75_9 b75_10) (fun z => absurd (fun w => h ((nI_eq (b := 2) (by omega) (by omega)).mp w)) z)
theorem PC.drop {h' : Nat} (hP : PC n h kd fa fb ly I) (q : h' ≤ h) : PC n h' kd fa fb ly (mm_set I 19 5 (nI h')) := by
  obtain ⟨p1, p2, p3, p4⟩ := hP
  exact ⟨by simpa [mm_set] using p1, by simp [mm_set], fun i hi => by simpa [mm_set] using p3 i hi, fun j hj => by simpa [mm_set] using p4 j (by omega)⟩
theorem PM.drop {h' : Nat} (hP : PM n h kd fa fb ly I) (q : h' ≤ h) : PM n h' kd fa fb ly (mm_set I 26 19 (nI h')) := by
  obtain ⟨p1, p2, p3, p4⟩ := hP
  exact ⟨by simpa [mm_set] using p1, by simp [mm_set], fun i hi => by simpa [mm_set] using p3 i hi, fun j hj => by simpa [mm_set] using p4 j (by omega)⟩
theorem nI_m1 {a : Nat} (h : 1 ≤ a) : nI a - 1 = nI (a - 1) := nI_sub (b := 1) h
/-- join -/
theorem c76 (hP : PC n h kd fa fb ly I) (hn : n < 20) (hh : h ≤ 20) {q : Nat} (hq : q < 3) (ho : opn q ≤ h) : ∃ I1, mm_Call l X 76 (d + 1) [.ref 19, .int (nI q)] (mm_Λ, I, J) mc ms (.inl (some (.int (nI (h - opn q + 1))))) (mm_Λ, I1, J) ∧
    PC (n + 1) (h - opn q + 1) (up1 kd n q) (up1 fa n (ly (h - opn q))) (up1 fb n (ly (h - 1))) (up1 ly (h - opn q) n) I1 ∧ ∀ p, p ∉ [19, 20, 21, 22, 23] → I1 p = I p := by
  have o1 := opn_le q
  obtain ⟨I1, r, hP1, hf⟩ := @c69 l X d (mm_set I 19 5 (nI (h - opn q))) J 0 0 n (h - opn q) kd fa fb ly (hP.drop (Nat.sub_le _ _)) hn (by omega) q (ly (h - opn q)) (ly (h - 1))
  refine ⟨I1, b76_0 (c75 hq) (b76_12 ?_ ?_ (c75 hq) (b76_36 (r := nI (h - opn q + 1)) ?_ b76_47)), hP1, fun p hp => ?_⟩
  · rw [hP.2.1, nI_sub ho]; exact ix_in (by omega) (by omega)
  · rw [hP.2.1, nI_m1 (by omega)]; exact ix_in (by omega) (by omega)
  · rw [hP.2.1, nI_sub ho, nI_m1 (by omega), ix_cl (by omega), ix_cl (by omega), hP.2.2.2 _ (by omega), hP.2.2.2 _ (by omega)]
    exact r
  · rw [hf p hp, mm_set_ne (by simp only [List.mem_cons, not_or] at hp; exact hp.1)]
theorem h_combine (hP : PC n h kd fa fb ly I) (hh : h ≤ n) (hn : n ≤ 20) (hb : jbar n h x k) : ∃ I1 J1, mm_Call l X 72 (d + 3) [.ref 0, .int x, .ref 45] (mm_Λ, I, J) 1 6 (.inl (some (.int k))) (mm_Λ, I1, J1) ∧ (k ≠ 0 → I1 = I ∧ J1 = J) ∧
    (k = 0 → n < 20 ∧ ∃ q, q < 3 ∧ x = nI q ∧ opn q ≤ h ∧ PutC n h (h - opn q) q kd fa fb ly (ly (h - opn q)) (ly (h - 1)) I I1 J J1) := by
  have r74 := @c74 l X (d + 1) I J 0 0
  rw [hP.2.1] at r74
  rcases hb with ⟨h1, rfl⟩ | ⟨q, h1, rfl, h3, rfl⟩ | ⟨q, h1, rfl, h2, h3, rfl⟩
  · exact ⟨I, J, b72_0c1 (mc := 0) (ms := 0) (b73_0 (fun _ => b73_9) (fun z => b73_4 (fun z1 => absurd ⟨z, z1⟩ h1) (fun _ => b73_9))) b72_12, fun _ => ⟨rfl, rfl⟩, fun q => absurd q (by decide)⟩
  · have o1 := opn_le q
    refine ⟨I, J, b72_0c2 (mc := 0) (ms := 0) (b73_0 (fun z => absurd z (is3_of h1).1) (fun _ => b73_4 (fun _ => b73_19 r74 (b73_26 (c75 h1) (b73_30 (fun z => ?_) (fun _ => b73_33)))) (fun z => absurd (is3_of h1).2 z))) b72_15, fun _ => ⟨rfl, rfl⟩, fun q => absurd q (by decide)⟩
    refine b73_43t (c67_no hP.1 ?_)
    rcases h3 with z1 | z1
    · exact absurd z (nI_ge z1 (by omega))
    · exact z1
  · have o1 := opn_le q
    obtain ⟨I1, r, hP1, hf⟩ := @c76 l X d I J 0 0 n h kd fa fb ly hP h3 (by omega) q h1 h2
    exact ⟨I1, mm_set J 45 0 (nI (h - opn q + 1)).toInt64, b72_0 (b73_0 (fun z => absurd z (is3_of h1).1) (fun _ => b73_4 (fun _ => b73_19 r74 (b73_26 (c75 h1) (b73_30 (fun _ => b73_43 (c67_ok hP.1 h3) (b73_47 r b73_55)) (fun z => absurd (nI_le h2 (by omega)) z)))) (fun z => absurd (is3_of h1).2 z))) (b72_7 (by unfold vp_in; decide) b72_18), fun q => absurd rfl q, fun _ => ⟨h3, q, h1, rfl, h2, hP1, hf, rfl⟩⟩
theorem m_combine (hP : PM n h kd fa fb ly I) (hh : h ≤ n) (hn : n ≤ 20) (hb : jbar n h x k) : ∃ r I1, mm_Call l X 130 (d + 2) [.ref 26, .int x] (mm_Λ, I, J) mc ms (.inl (some (.int r))) (mm_Λ, I1, J) ∧ I1 26 0 = k ∧ (k ≠ 0 → (∀ p, p ≠ 26 → I1 p = I p) ∧ ∀ i, i ≠ 0 → I1 26 i = I 26 i) ∧
    (k = 0 → ∀ q, q < 3 → x = nI q → r = nI (h - opn q + 1) ∧ PutM n h (h - opn q) q kd fa fb ly (ly (h - opn q)) (ly (h - 1)) I I1) := by
  have bad : ∀ k : Int32, ¬ k ≤ 0 → mm_Run l X 130 (d + 2) 45 [.ref 26, .int x, .null, .null] [.int k, .ref 26] (mm_Λ, I, J) mc ms (.inl (some (.int 0))) (mm_Λ, mm_set I 26 0 k, J) := fun k hk => b130_45 (fun q => absurd q hk) (fun _ => b130_55)
  have fr : ∀ k : Int32, (∀ p, p ≠ 26 → mm_set I 26 0 k p = I p) ∧ ∀ i, i ≠ 0 → mm_set I 26 0 k 26 i = I 26 i := fun k => ⟨fun p hp => mm_set_ne hp, fun i hi => by simp [mm_set, hi]⟩
  have pre : ∀ {q : Nat} {o : mm_O} {σ' : mm_S} {mc ms : Nat}, q < 3 → mm_Run l X 130 (d + 2) 28 [.ref 26, .int (nI q), .null, .null] [.int (nI (opn q)), .int (nI h), .ref 26] (mm_Λ, I, J) mc ms o σ' → mm_Call l X 130 (d + 2) [.ref 26, .int (nI q)] (mm_Λ, I, J) mc ms o σ' := by
    intro q o σ' mc ms hq rr
    refine b130_0 (fun z => absurd z (is3_of hq).1) (fun _ => b130_5 (fun _ => b130_14 (fun z => ?_) (fun z => ?_)) (fun z => absurd (is3_of hq).2 z))
    · rw [hP.2.1]
      have : ¬ q = 2 := fun w => z (by rw [w]; rfl)
      rw [opn, if_neg this] at rr
      exact b130_27 rr
    · rw [hP.2.1]
      have : q = 2 := (nI_eq (b := 2) (by omega) (by omega)).mp (Decidable.not_not.mp z)
      rw [opn, if_pos this] at rr
      exact b130_23 rr
  rcases hb with ⟨h1, rfl⟩ | ⟨q, h1, rfl, h3, rfl⟩ | ⟨q, h1, rfl, h2, h3, rfl⟩
  · refine ⟨0, _, ?_, mm_at, fun _ => fr 1, fun q => absurd q (by decide)⟩
    have s10 := b130_10 (bad 1 (by decide))
    exact b130_0 (fun _ => s10) (fun z => b130_5 (fun z1 => absurd ⟨z, z1⟩ h1) (fun _ => s10))
  · have o1 := opn_le q
    refine ⟨0, _, pre h1 (b130_28 (fun _ => b130_40 (bad 2 (by decide))) (fun z => b130_31 (fun z1 => absurd ?_ z1) (fun _ => b130_40 (bad 2 (by decide))))), mm_at, fun _ => fr 2, fun q => absurd q (by decide)⟩
    rcases h3 with z1 | z1
    · exact absurd (nI_lt z1 (by omega)) z
    · rw [hP.1, z1]; rfl
  · have o1 := opn_le q
    have e19 : (mm_set I 26 0 0) 26 19 = nI h := by simp [mm_set]; exact hP.2.1
    have e42 : (mm_set I 26 0 0) 42 = I 42 := mm_set_ne (by decide)
    have main : ∃ I1, mm_Run l X 130 (d + 2) 57 [.ref 26, .int (nI q), .null, .null] [] (mm_Λ, mm_set I 26 0 0, J) mc ms (.inl (some (.int (nI (h - opn q + 1))))) (mm_Λ, I1, J) ∧
        PM (n + 1) (h - opn q + 1) (up1 kd n q) (up1 fa n (ly (h - opn q))) (up1 fb n (ly (h - 1))) (up1 ly (h - opn q) n) I1 ∧ (∀ p, p ∉ [26, 38, 39, 40, 42] → I1 p = I p) ∧ ∀ i, i ≠ 14 → i ≠ 19 → I1 26 i = mm_set I 26 0 0 26 i := by
      have hv : vp_in ((mm_set I 26 0 0) 26 19 - 1) 20 := by rw [e19, nI_m1 (by omega)]; exact ix_in (by omega) (by omega)
      have hkq : (2 : Int32) + nI q = nI ((q + 2) % 5) := by
        rw [show (2 : Int32) = nI 2 from rfl, nI_add, Nat.mod_eq_of_lt (by omega), Nat.add_comm]
      by_cases h2' : q = 2
      · have ho : opn q = 1 := by rw [opn, if_pos h2']
        obtain ⟨I1, r, hP1, hf, hg⟩ := @c128 l X (d + 1) (mm_set (mm_set I 26 0 0) 26 19 (nI (h - 1))) J 0 0 n (h - 1) kd fa fb ly (hP.thrown.drop (Nat.sub_le _ _)) h3 (by omega) q (ly (h - 1)) (ly (h - 1))
        rw [ho]
        refine ⟨I1, b130_57 hv (fun z => absurd (by rw [h2']; rfl) z) (fun _ => ?_), hP1, fun p hp => ?_, fun i a b => ?_⟩
        · rw [e19, nI_m1 (by omega), ix_cl (by omega), e42, hP.2.2.2 _ (by omega)]
          rw [← hkq] at r
          exact b130_84 r b130_93
        · have : p ≠ 26 := by simp only [List.mem_cons, not_or] at hp; exact hp.1
          rw [hf p hp, mm_set_ne this, mm_set_ne this]
        · rw [hg i a b]; simp [mm_set, b]
      · have ho : opn q = 2 := by rw [opn, if_neg h2']
        obtain ⟨I1, r, hP1, hf, hg⟩ := @c128 l X (d + 1) (mm_set (mm_set (mm_set I 26 0 0) 26 19 (nI (h - 1))) 26 19 (nI (h - 2))) J 0 0 n (h - 2) kd fa fb ly ((hP.thrown.drop (Nat.sub_le _ _)).drop (by omega)) h3 (by omega) q (ly (h - 2)) (ly (h - 1))
        rw [ho]
        refine ⟨I1, b130_57 hv (fun _ => ?_) (fun z => absurd (fun w => h2' ((nI_eq (b := 2) (by omega) (by omega)).mp w)) z), hP1, fun p hp => ?_, fun i a b => ?_⟩
        · rw [e19, nI_m1 (by omega), ix_cl (by omega), e42, hP.2.2.2 _ (by omega)]
          have e2 : (mm_set (mm_set I 26 0 0) 26 19 (nI (h - 1))) 26 19 = nI (h - 1) := mm_at
          have e3 : (mm_set (mm_set I 26 0 0) 26 19 (nI (h - 1))) 42 = I 42 := by rw [mm_set_ne (by decide), mm_set_ne (by decide)]
          have q1 := @b130_94 l X (d + 1) (mm_set (mm_set I 26 0 0) 26 19 (nI (h - 1))) J
          rw [e2, e3, nI_m1 (by omega), show h - 1 - 1 = h - 2 by omega, ix_cl (by omega), hP.2.2.2 (h - 2) (by omega)] at q1
          rw [← hkq] at r
          exact q1 (ix_in (by omega) (by omega)) r b130_125
        · have : p ≠ 26 := by simp only [List.mem_cons, not_or] at hp; exact hp.1
          rw [hf p hp, mm_set_ne this, mm_set_ne this, mm_set_ne this]
        · rw [hg i a b]; simp [mm_set, b]
    obtain ⟨I1, r, hP1, hf, hg⟩ := main
    refine ⟨nI (h - opn q + 1), I1, pre h1 (b130_28 (fun z => absurd z (nI_nlt h2 (by omega))) (fun _ => b130_31 (fun _ => b130_44 (b130_45 (fun _ => r) (fun z => absurd (by decide) z))) (fun q => absurd (fun z => by rw [hP.1] at z; exact absurd ((nI_eq (b := 20) (by omega) (by omega)).mp z) (by omega)) q))), ?_, fun q => absurd rfl q, fun _ q' hq' ex => ?_⟩
    · rw [hg 0 (by decide) (by decide)]; exact mm_at
    · have e1 : q = q' := (nI_eq (by omega) (by omega)).mp ex
      subst e1
      exact ⟨rfl, hP1, hf, fun i h0 h14 h19 => by rw [hg i h14 h19]; simp [mm_set, h0]⟩
/-! discard, shown, evaluated, passed of the reference -/
theorem c131 : mm_Call l X 131 d [.ref 26] (mm_Λ, I, J) mc ms (.inl none) (mm_Λ, mm_set (mm_set (mm_set I 26 0 0) 26 19 0) 26 14 0, J) := b131_0
theorem c143 : mm_Call l X 143 d [.ref 26] (mm_Λ, I, J) mc ms (.inl (some (.int (I 26 25)))) (mm_Λ, mm_set I 26 0 0, J) := b143_0
theorem c144 : mm_Call l X 144 d [.ref 26] (mm_Λ, I, J) mc ms (.inl (some (.long (J 26 26)))) (mm_Λ, mm_set I 26 0 0, J) := b144_0
theorem c125 (j : Int32) (hn : I 26 8 ≤ 121) : mm_Call l X 125 d [.ref 26, .int j] (mm_Λ, I, J) mc ms (.inl (some (.int (atI (I 26 8) (I 34) j)))) (mm_Λ, mm_set I 26 0 0, J) := by
  unfold atI
  have e1 : (mm_set I 26 0 0) 26 8 = I 26 8 := by simp [mm_set]
  have e2 : (mm_set I 26 0 0) 34 = I 34 := mm_set_ne (by decide)
  refine b125_0 (fun h => ?_) (fun h => ?_)
  · rw [if_pos (Or.inl h)]
    exact b125_26 b125_27
  · refine b125_9 (fun h1 => ?_) (fun h1 => ?_)
    · rw [e1] at h1
      rw [if_pos (Or.inr h1)]
      exact b125_26 b125_27
    · rw [e1] at h1
      rw [if_neg (fun q => q.elim h h1), ← e2]
      refine b125_17 ?_ b125_27
      intro q
      rcases q with q | q
      · exact h q
      · have h2 := Int32.lt_of_lt_of_le (Int32.not_le.mp h1) hn
        obtain ⟨n, hn1, rfl⟩ := nI_of h
        rw [nI_clamp hn1] at q
        exact absurd h2 (nI_nlt (a := n) (b := 121) (by omega) hn1)
end PILE2
