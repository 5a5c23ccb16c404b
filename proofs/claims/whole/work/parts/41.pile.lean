/-! ===== the pile ===== -/
def up1 (f : Nat → Nat) (k v : Nat) : Nat → Nat := fun i => if i = k then v else f i
/-- as the class has it; as the reference has it; what is true of every pile -/
def PC (n h : Nat) (kd fa fb ly : Nat → Nat) (I : Nat → Nat → Int32) : Prop :=
  I 19 4 = nI n ∧ I 19 5 = nI h ∧ (∀ i, i < n → I 20 i = nI (kd i) ∧ I 21 i = nI (fa i) ∧ I 22 i = nI (fb i)) ∧ ∀ j, j < h → I 23 j = nI (ly j)
def PM (n h : Nat) (kd fa fb ly : Nat → Nat) (I : Nat → Nat → Int32) : Prop :=
  I 26 14 = nI n ∧ I 26 19 = nI h ∧ (∀ i, i < n → I 38 i = nI ((kd i + 2) % 5) ∧ I 39 i = nI (fa i) ∧ I 40 i = nI (fb i)) ∧ ∀ j, j < h → I 42 j = nI (ly j)
def PW (n h : Nat) (kd fa fb ly : Nat → Nat) : Prop :=
  n ≤ 20 ∧ h ≤ n ∧ (∀ i, i < n → kd i < 5 ∧ (kd i < 3 → fa i < i ∧ fb i < i) ∧ (kd i = 3 → isPb (fa i) = true ∧ fb i < 4) ∧ (kd i = 4 → isPb (fa i) = true ∧ isPb (fb i) = true)) ∧ ∀ j, j < h → ly j < n
theorem PW.put {n h : Nat} {kd fa fb ly : Nat → Nat} (hw : PW n h kd fa fb ly) {h' q x y : Nat} (hn : n < 20) (hh : h' ≤ h) (hq : q < 5) (h3 : q < 3 → x < n ∧ y < n) (h4 : q = 3 → isPb x = true ∧ y < 4) (h5 : q = 4 → isPb x = true ∧ isPb y = true) :
    PW (n + 1) (h' + 1) (up1 kd n q) (up1 fa n x) (up1 fb n y) (up1 ly h' n) := by
  obtain ⟨w1, w2, w3, w4⟩ := hw
  refine ⟨by omega, by omega, fun i hi => ?_, fun j hj => ?_⟩
  · unfold up1
    by_cases h : i = n
    · subst h
      simp only [if_pos]
      exact ⟨hq, h3, h4, h5⟩
    · simp only [if_neg h]
      exact w3 i (by omega)
  · unfold up1
    by_cases h : j = h'
    · rw [if_pos h]; omega
    · rw [if_neg h]; have := w4 j (by omega); omega
def isPx (x : Int32) : Prop := ∃ p, p < 256 ∧ x = nI p ∧ isPb p = true
theorem isPb_lt {p : Nat} (h : isPb p = true) : p < 256 := by
  unfold isPb at h
  simp at h
  exact h.1
theorem isPx_cases (x : Int32) : isPx x ∨ x < 0 ∨ ∃ p, p < 2 ^ 31 ∧ x = nI p ∧ isPb p = false := by
  by_cases h : x < 0
  · exact Or.inr (Or.inl h)
  · obtain ⟨p, h1, rfl⟩ := nI_of h
    cases hp : isPb p with
    | true => exact Or.inl ⟨p, isPb_lt hp, rfl, hp⟩
    | false => exact Or.inr (Or.inr ⟨p, h1, rfl, hp⟩)
section PILE
variable {l : Launch} {X : Nat × (Nat → Int32)} {d : Nat} {I : Nat → Nat → Int32} {J : Nat → Nat → Int64} {mc ms : Nat} {n h : Nat} {kd fa fb ly : Nat → Nat} {x y k : Int32}
theorem c65_ok (hx : isPx x) : mm_Call l X 65 (d + 1) [.int x] (mm_Λ, I, J) mc ms (.inl none) (mm_Λ, I, J) := by
  obtain ⟨p, h1, rfl, h2⟩ := hx
  have r := @c66 l X d I J 0 0 p (by omega)
  rw [if_pos h2] at r
  exact b65_0 r (b65_4 (fun _ => b65_17) (fun q => absurd (by decide) q))
theorem c65_no (hx : ¬ isPx x) : mm_Call l X 65 (d + 1) [.int x] (mm_Λ, I, J) 1 6 (.inr (mm_ex 1)) (mm_Λ, I, J) := by
  rcases isPx_cases x with q | q | ⟨p, h1, rfl, h2⟩
  · exact absurd q hx
  · exact b65_0 (c66_neg q) (b65_4 (fun q => absurd rfl q) (fun _ => b65_7))
  · have r := @c66 l X d I J 0 0 p h1
    rw [h2, if_neg (by decide)] at r
    exact b65_0 r (b65_4 (fun q => absurd rfl q) (fun _ => b65_7))
theorem c127_ok (hx : isPx x) : mm_Call l X 127 (d + 1) [.int x] (mm_Λ, I, J) mc ms (.inl (some (.int 1))) (mm_Λ, I, J) := by
  obtain ⟨p, h1, rfl, h2⟩ := hx
  have r := @c127 l X d I J mc ms p (by omega)
  rw [if_pos h2] at r
  exact r
theorem c127_no (hx : ¬ isPx x) : mm_Call l X 127 (d + 1) [.int x] (mm_Λ, I, J) mc ms (.inl (some (.int 0))) (mm_Λ, I, J) := by
  rcases isPx_cases x with q | q | ⟨p, h1, rfl, h2⟩
  · exact absurd q hx
  · exact c127_neg q
  · have r := @c127 l X d I J mc ms p h1
    rw [h2, if_neg (by decide)] at r
    exact r
theorem c67_ok (hP : I 19 4 = nI n) (hn : n < 20) : mm_Call l X 67 (d + 1) [.ref 0] (mm_Λ, I, J) mc ms (.inl none) (mm_Λ, I, J) := by
  have r := @c68 l X d I J 0 0
  rw [hP] at r
  exact b67_0 r (b67_7 (fun _ => b67_22) (fun q => absurd (nI_lt (b := 20) hn (by omega)) q))
theorem c67_no (hP : I 19 4 = nI n) (hn : n = 20) : mm_Call l X 67 (d + 1) [.ref 0] (mm_Λ, I, J) 1 6 (.inr (mm_ex 2)) (mm_Λ, I, J) := by
  have r := @c68 l X d I J 0 0
  rw [hP] at r
  exact b67_0 r (b67_7 (fun q => absurd q (nI_nlt (b := 20) (by omega) (by omega))) (fun _ => b67_12))
/-- put -/
theorem c69 (hP : PC n h kd fa fb ly I) (hn : n < 20) (hh : h < 20) (q x y : Nat) : ∃ I1, mm_Call l X 69 d [.ref 19, .int (nI q), .int (nI x), .int (nI y)] (mm_Λ, I, J) mc ms (.inl (some (.int (nI (h + 1))))) (mm_Λ, I1, J) ∧
    PC (n + 1) (h + 1) (up1 kd n q) (up1 fa n x) (up1 fb n y) (up1 ly h n) I1 ∧ ∀ p, p ∉ [19, 20, 21, 22, 23] → I1 p = I p := by
  obtain ⟨p1, p2, p3, p4⟩ := hP
  have hi : vp_in (I 19 4) 20 := by rw [p1]; exact ix_in hn (by omega)
  have r := @b69_0 l X d I J (nI q) (nI x) (nI y) mc ms hi hi hi (by rw [p2]; exact ix_in hh (by omega))
  rw [p1, p2, ix_cl (by omega), ix_cl (by omega), nI_1, nI_1] at r
  refine ⟨_, r, ⟨by simp [mm_set], by simp [mm_set], fun i hi => ?_, fun j hj => ?_⟩, fun p hp => ?_⟩
  · unfold up1
    by_cases e : i = n
    · subst e; simp [mm_set]
    · obtain ⟨a1, a2, a3⟩ := p3 i (by omega)
      simp [mm_set, e, a1, a2, a3]
  · unfold up1
    by_cases e : j = h
    · subst e; simp [mm_set]
    · simp [mm_set, e, p4 j (by omega)]
  · simp only [List.mem_cons, List.not_mem_nil, or_false, not_or] at hp
    obtain ⟨e1, e2, e3, e4, e5⟩ := hp
    rw [mm_set_ne e1, mm_set_ne e1, mm_set_ne e5, mm_set_ne e4, mm_set_ne e3, mm_set_ne e2]
/-- the reference's put -/
theorem c128 (hP : PM n h kd fa fb ly I) (hn : n < 20) (hh : h < 20) (q x y : Nat) : ∃ I1, mm_Call l X 128 d [.ref 26, .int (nI ((q + 2) % 5)), .int (nI x), .int (nI y)] (mm_Λ, I, J) mc ms (.inl (some (.int (nI (h + 1))))) (mm_Λ, I1, J) ∧
    PM (n + 1) (h + 1) (up1 kd n q) (up1 fa n x) (up1 fb n y) (up1 ly h n) I1 ∧ (∀ p, p ∉ [26, 38, 39, 40, 42] → I1 p = I p) ∧ ∀ i, i ≠ 14 → i ≠ 19 → I1 26 i = I 26 i := by
  obtain ⟨p1, p2, p3, p4⟩ := hP
  have hi : vp_in (I 26 14) 20 := by rw [p1]; exact ix_in hn (by omega)
  have r := @b128_0 l X d I J (nI ((q + 2) % 5)) (nI x) (nI y) mc ms hi hi hi (by rw [p2]; exact ix_in hh (by omega))
  rw [p1, p2, ix_cl (by omega), ix_cl (by omega), nI_1, nI_1] at r
  refine ⟨_, r, ⟨by simp [mm_set], by simp [mm_set], fun i hi => ?_, fun j hj => ?_⟩, fun p hp => ?_, fun i h1 h2 => by simp [mm_set, h1, h2]⟩
  · unfold up1
    by_cases e : i = n
    · subst e; simp [mm_set]
    · obtain ⟨a1, a2, a3⟩ := p3 i (by omega)
      simp [mm_set, e, a1, a2, a3]
  · unfold up1
    by_cases e : j = h
    · subst e; simp [mm_set]
    · simp [mm_set, e, p4 j (by omega)]
  · simp only [List.mem_cons, List.not_mem_nil, or_false, not_or] at hp
    obtain ⟨e1, e2, e3, e4, e5⟩ := hp
    rw [mm_set_ne e1, mm_set_ne e1, mm_set_ne e5, mm_set_ne e4, mm_set_ne e3, mm_set_ne e2]
def is4 (x : Int32) : Prop := ¬ x < 0 ∧ x < 4
theorem is4_nI (hx : is4 x) : ∃ t, t < 4 ∧ x = nI t := by
  obtain ⟨t, h1, rfl⟩ := nI_of hx.1
  exact ⟨t, Nat.lt_of_not_le fun q => nI_nlt (a := t) (b := 4) q h1 hx.2, rfl⟩
/-- test's and same's codes -/
def tbar (n : Nat) (x y k : Int32) : Prop := (¬ (isPx x ∧ is4 y) ∧ k = 1) ∨ (isPx x ∧ is4 y ∧ n = 20 ∧ k = 2) ∨ (isPx x ∧ is4 y ∧ n < 20 ∧ k = 0)
def ebar (n : Nat) (x y k : Int32) : Prop := (¬ (isPx x ∧ isPx y) ∧ k = 1) ∨ (isPx x ∧ isPx y ∧ n = 20 ∧ k = 2) ∨ (isPx x ∧ isPx y ∧ n < 20 ∧ k = 0)
theorem tbar_ex (hn : n ≤ 20) (x y : Int32) : ∃ k, tbar n x y k := by
  by_cases h1 : isPx x ∧ is4 y
  · by_cases h2 : n = 20
    · exact ⟨2, Or.inr (Or.inl ⟨h1.1, h1.2, h2, rfl⟩)⟩
    · exact ⟨0, Or.inr (Or.inr ⟨h1.1, h1.2, by omega, rfl⟩)⟩
  · exact ⟨1, Or.inl ⟨h1, rfl⟩⟩
theorem ebar_ex (hn : n ≤ 20) (x y : Int32) : ∃ k, ebar n x y k := by
  by_cases h1 : isPx x ∧ isPx y
  · by_cases h2 : n = 20
    · exact ⟨2, Or.inr (Or.inl ⟨h1.1, h1.2, h2, rfl⟩)⟩
    · exact ⟨0, Or.inr (Or.inr ⟨h1.1, h1.2, by omega, rfl⟩)⟩
  · exact ⟨1, Or.inl ⟨h1, rfl⟩⟩
/-- what a put leaves behind -/
def PutC (n h h' q : Nat) (kd fa fb ly : Nat → Nat) (a b : Nat) (I I1 : Nat → Nat → Int32) (J J1 : Nat → Nat → Int64) : Prop :=
  PC (n + 1) (h' + 1) (up1 kd n q) (up1 fa n a) (up1 fb n b) (up1 ly h' n) I1 ∧ (∀ p, p ∉ [19, 20, 21, 22, 23] → I1 p = I p) ∧ J1 = mm_set J 45 0 (nI (h' + 1)).toInt64
def PutM (n h h' q : Nat) (kd fa fb ly : Nat → Nat) (a b : Nat) (I I1 : Nat → Nat → Int32) : Prop :=
  PM (n + 1) (h' + 1) (up1 kd n q) (up1 fa n a) (up1 fb n b) (up1 ly h' n) I1 ∧ (∀ p, p ∉ [26, 38, 39, 40, 42] → I1 p = I p) ∧ ∀ i, i ≠ 0 → i ≠ 14 → i ≠ 19 → I1 26 i = I 26 i
theorem h_test (hP : PC n h kd fa fb ly I) (hh : h ≤ n) (hb : tbar n x y k) : ∃ I1 J1, mm_Call l X 63 (d + 3) [.ref 0, .int x, .int y, .ref 45] (mm_Λ, I, J) 1 6 (.inl (some (.int k))) (mm_Λ, I1, J1) ∧ (k ≠ 0 → I1 = I ∧ J1 = J) ∧
    (k = 0 → n < 20 ∧ ∃ a b, isPb a = true ∧ b < 4 ∧ x = nI a ∧ y = nI b ∧ PutC n h h 3 kd fa fb ly a b I I1 J J1) := by
  rcases hb with ⟨h1, rfl⟩ | ⟨h1, h2, h3, rfl⟩ | ⟨h1, h2, h3, rfl⟩
  · refine ⟨I, J, b63_0c1 (mc := 0) (ms := 0) ?_ b63_13, fun _ => ⟨rfl, rfl⟩, fun q => absurd q (by decide)⟩
    by_cases hx : isPx x
    · exact b64_0 (c65_ok hx) (b64_4 (fun _ => b64_13) (fun q => b64_8 (fun q1 => absurd ⟨hx, q, q1⟩ h1) (fun _ => b64_13)))
    · exact b64_0t (c65_no hx)
  · exact ⟨I, J, b63_0c2 (mc := 0) (ms := 0) (b64_0 (c65_ok h1) (b64_4 (fun q => absurd q h2.1) (fun _ => b64_8 (fun _ => b64_23t (c67_no hP.1 h3)) (fun q => absurd h2.2 q)))) b63_17, fun _ => ⟨rfl, rfl⟩, fun q => absurd q (by decide)⟩
  · obtain ⟨a, ha, rfl, hpa⟩ := id h1
    obtain ⟨b, hb4, rfl⟩ := is4_nI h2
    obtain ⟨I1, r, hP1, hf⟩ := @c69 l X (d + 1) I J 0 0 n h kd fa fb ly hP h3 (by omega) 3 a b
    exact ⟨I1, mm_set J 45 0 (nI (h + 1)).toInt64, b63_0 (b64_0 (c65_ok h1) (b64_4 (fun q => absurd q h2.1) (fun _ => b64_8 (fun _ => b64_23 (c67_ok hP.1 h3) (b64_27 r b64_37)) (fun q => absurd h2.2 q)))) (b63_8 (by unfold vp_in; decide) b63_21), fun q => absurd rfl q, fun _ => ⟨h3, a, b, hpa, hb4, rfl, rfl, hP1, hf, rfl⟩⟩
theorem PM.thrown (hP : PM n h kd fa fb ly I) : PM n h kd fa fb ly (mm_set I 26 0 k) := by
  obtain ⟨p1, p2, p3, p4⟩ := hP
  exact ⟨by simpa [mm_set] using p1, by simpa [mm_set] using p2, fun i hi => by simpa [mm_set] using p3 i hi, fun j hj => by simpa [mm_set] using p4 j hj⟩
theorem m_test (hP : PM n h kd fa fb ly I) (hh : h ≤ n) (hb : tbar n x y k) : ∃ r I1, mm_Call l X 126 (d + 2) [.ref 26, .int x, .int y] (mm_Λ, I, J) mc ms (.inl (some (.int r))) (mm_Λ, I1, J) ∧ I1 26 0 = k ∧ (k ≠ 0 → (∀ p, p ≠ 26 → I1 p = I p) ∧ ∀ i, i ≠ 0 → I1 26 i = I 26 i) ∧
    (k = 0 → r = nI (h + 1) ∧ ∀ a b, a < 256 → b < 4 → x = nI a → y = nI b → PutM n h h 3 kd fa fb ly a b I I1) := by
  have bad : ∀ k : Int32, ¬ k ≤ 0 → mm_Run l X 126 (d + 2) 35 [.ref 26, .int x, .int y] [.int k, .ref 26] (mm_Λ, I, J) mc ms (.inl (some (.int 0))) (mm_Λ, mm_set I 26 0 k, J) := fun k hk => b126_35 (fun q => absurd q hk) (fun _ => b126_45 b126_56)
  have fr : ∀ k : Int32, (∀ p, p ≠ 26 → mm_set I 26 0 k p = I p) ∧ ∀ i, i ≠ 0 → mm_set I 26 0 k 26 i = I 26 i := fun k => ⟨fun p hp => mm_set_ne hp, fun i hi => by simp [mm_set, hi]⟩
  rcases hb with ⟨h1, rfl⟩ | ⟨h1, h2, h3, rfl⟩ | ⟨h1, h2, h3, rfl⟩
  · refine ⟨0, _, ?_, mm_at, fun _ => fr 1, fun q => absurd q (by decide)⟩
    have s17 := b126_17 (bad 1 (by decide))
    by_cases hx : isPx x
    · exact b126_0 (c127_ok hx) (b126_5 (fun q => absurd q (by decide)) (fun _ => b126_8 (fun _ => s17) (fun q => b126_12 (fun q1 => absurd ⟨hx, q, Int32.lt_of_le_of_lt q1 (by decide)⟩ h1) (fun _ => s17))))
    · exact b126_0 (c127_no hx) (b126_5 (fun _ => s17) (fun q => absurd rfl q))
  · obtain ⟨b, hb4, rfl⟩ := is4_nI h2
    exact ⟨0, _, b126_0 (c127_ok h1) (b126_5 (fun q => absurd q (by decide)) (fun _ => b126_8 (fun q => absurd q h2.1) (fun _ => b126_12 (fun _ => b126_21 (fun q => absurd (by rw [hP.1, h3]; rfl) q) (fun _ => b126_30 (bad 2 (by decide)))) (fun q => absurd (nI_le (b := 3) (by omega) (by omega)) q)))), mm_at, fun _ => fr 2, fun q => absurd q (by decide)⟩
  · obtain ⟨a, ha, rfl, hpa⟩ := id h1
    obtain ⟨b, hb4, rfl⟩ := is4_nI h2
    obtain ⟨I1, r, hP1, hf, hg⟩ := @c128 l X (d + 1) (mm_set I 26 0 0) J 0 0 n h kd fa fb ly hP.thrown h3 (by omega) 3 a b
    refine ⟨nI (h + 1), I1, b126_0 (c127_ok h1) (b126_5 (fun q => absurd q (by decide)) (fun _ => b126_8 (fun q => absurd q h2.1) (fun _ => b126_12 (fun _ => b126_21 (fun _ => b126_34 (b126_35 (fun _ => b126_49 r b126_56) (fun q => absurd (by decide) q))) (fun q => absurd (fun z => by rw [hP.1] at z; exact absurd ((nI_eq (b := 20) (by omega) (by omega)).mp z) (by omega)) q)) (fun q => absurd (nI_le (b := 3) (by omega) (by omega)) q)))), ?_, fun q => absurd rfl q, fun _ => ⟨rfl, fun a' b' ha' hb' ex ey => ?_⟩⟩
    · rw [hg 0 (by decide) (by decide)]; exact mm_at
    · have e1 : a = a' := (nI_eq (by omega) (by omega)).mp ex
      have e2 : b = b' := (nI_eq (by omega) (by omega)).mp ey
      subst e1; subst e2
      refine ⟨hP1, fun p hp => ?_, fun i h0 h14 h19 => by rw [hg i h14 h19]; simp [mm_set, h0]⟩
      rw [hf p hp, mm_set_ne (by simp only [List.mem_cons, not_or] at hp; exact hp.1)]
end PILE
