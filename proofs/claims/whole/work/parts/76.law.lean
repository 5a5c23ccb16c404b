/-! ===== the law: what holds between two calls, and each call ===== -/
theorem lgcr (x : Int64) : lg_cmp x x = 0 := (lgc0 x x).mpr rfl
def LJ (cnt fld fty : Nat → Nat) (n h : Nat) (kd fa fb ly : Nat → Nat) (R : List Int32) (I : Nat → Nat → Int32) (J : Nat → Nat → Int64) : Prop :=
  TI cnt fld fty I J ∧ RW (I 11 1) (I 12) R ∧ RW (I 26 8) (I 34) R ∧ R.length ≤ 121 ∧ PC n h kd fa fb ly I ∧ PM n h kd fa fb ly I ∧ PW n h kd fa fb ly ∧ I 0 8 = I 26 25 ∧ J 0 9 = J 26 26
def LI (I : Nat → Nat → Int32) (J : Nat → Nat → Int64) : Prop := ∃ (cnt fld fty : Nat → Nat) (n h : Nat) (kd fa fb ly : Nat → Nat) (R : List Int32), LJ cnt fld fty n h kd fa fb ly R I J
section LAWS
variable {l : Launch} {X : Nat × (Nat → Int32)} {d i : Nat} {I I' : Nat → Nat → Int32} {J J' : Nat → Nat → Int64} {mc ms : Nat} {cnt fld fty : Nat → Nat} {n h : Nat} {kd fa fb ly : Nat → Nat} {R : List Int32} {k : Int32}
theorem LJ.fr (hL : LJ cnt fld fty n h kd fa fb ly R I J) (hI : ∀ p, p ∈ [0, 2, 3, 4, 11, 12, 19, 20, 21, 22, 23, 27, 28, 29, 34, 38, 39, 40, 42] → I' p = I p) (h26 : ∀ i, i ∈ [8, 14, 19, 25] → I' 26 i = I 26 i) (hJ : ∀ p, p ∈ [0, 6, 7, 9, 10] → J' p = J p) (hJ26 : J' 26 26 = J 26 26) : LJ cnt fld fty n h kd fa fb ly R I' J' := by
  obtain ⟨hT, hR1, hR2, hlen, hC, hM, hw, e8, e9⟩ := hL
  refine ⟨hT.same (fun p hp => hI p ?_) (fun p hp => hJ p ?_), ?_, ?_, hlen, hC.of fun p hp => hI p ?_, hM.of (h26 14 (by decide)) (h26 19 (by decide)) (hI 38 (by decide)) (hI 39 (by decide)) (hI 40 (by decide)) (hI 42 (by decide)), hw, ?_, ?_⟩
  · simp only [List.mem_cons, List.not_mem_nil, or_false] at hp ⊢; omega
  · simp only [List.mem_cons, List.not_mem_nil, or_false] at hp ⊢; omega
  · rw [hI 11 (by decide), hI 12 (by decide)]; exact hR1
  · rw [h26 8 (by decide), hI 34 (by decide)]; exact hR2
  · simp only [List.mem_cons, List.not_mem_nil, or_false] at hp ⊢; omega
  · rw [hI 0 (by decide), h26 25 (by decide)]; exact e8
  · rw [hJ 0 (by decide), hJ26]; exact e9
theorem LJ.thrown (hL : LJ cnt fld fty n h kd fa fb ly R I J) (hJ : ∀ p, p ∈ [0, 6, 7, 9, 10, 26] → J' p = J p) : LJ cnt fld fty n h kd fa fb ly R (mm_set I 26 0 k) J' :=
  hL.fr (fun p hp => mm_set_ne (by rintro rfl; simp at hp)) (fun i hi => by
    have : i ≠ 0 := by rintro rfl; simp at hi
    simp [mm_set, this]) (fun p hp => hJ p (by simp only [List.mem_cons, List.not_mem_nil, or_false] at hp ⊢; omega)) (by rw [hJ 26 (by decide)])
theorem c100k (hk : I 26 0 = k) : mm_Call l X 100 d [.ref 26] (mm_Λ, I, J) mc ms (.inl (some (.int k))) (mm_Λ, I, J) := by
  have q := @b100_0 l X d I J mc ms
  rw [hk] at q
  exact q
theorem L0 (hL : LI I J) (h1 : vp_in (nI i + 1) X.1) (h2 : vp_in (nI i + 2) X.1) (h3 : vp_in (nI i + 3) X.1) (h4 : vp_in (nI i + 4) X.1) (h5 : vp_in (nI i + 5) X.1) : ∃ I' J', LI I' J' ∧ ∀ {mc ms : Nat} {o : mm_O} {σ' : mm_S}, mm_Run l X 145 (d + 31) 972 [.retAddr 0, .ref 0, .ref 26, .ref 45, .int (nI i), .null, .null, .null] [] (mm_Λ, I', J') mc ms o σ' → mm_Run l X 145 (d + 31) 112 [.retAddr 0, .ref 0, .ref 26, .ref 45, .int (nI i), .null, .null, .null] [] (mm_Λ, I, J) (1 + mc) (6 + ms) o σ' := by
  obtain ⟨cnt, fld, fty, n, h, kd, fa, fb, ly, R, hL⟩ := hL
  obtain ⟨hT, hR1, hR2, hlen, hC, hM, hw, e8, e9⟩ := id hL
  obtain ⟨k, hk⟩ := cbar_ex cnt hT.1.tw.1 (X.2 (nI i + 1).toNatClampNeg) (X.2 (nI i + 2).toNatClampNeg) (X.2 (nI i + 3).toNatClampNeg) (X.2 (nI i + 4).toNatClampNeg) (X.2 (nI i + 5).toNatClampNeg)
  obtain ⟨I1, J1, r1, f1, g1, u1, v1⟩ := h_ctor (l := l) (X := X) (d := d + 25) (J := J) hT.1 hk
  have hT1 : TV I1 27 28 29 cnt fld fty := hT.2.1.of (f1 27 (by decide) (by decide) (by decide)) (f1 28 (by decide) (by decide) (by decide)) (f1 29 (by decide) (by decide) (by decide))
  obtain ⟨r, I2, r2, t2, f2, p2, u2, v2⟩ := m_ctor (l := l) (X := X) (d := d + 29) (J := J1) (mc := 0) (ms := 0) hT1 hk
  have r3 := c100k (l := l) (X := X) (d := d + 30) (J := J1) (mc := 0) (ms := 0) t2
  by_cases hk0 : k = 0
  · obtain ⟨t, m, v, ht, hm, ex, ey, hc4, hv, z1, z2, z3⟩ := v1 hk0
    obtain ⟨w1, w2⟩ := v2 hk0 t m v ht hm ex ey hc4 hv
    have hf : ∀ p, p ∉ [2, 3, 4, 26, 27, 28, 29] → I2 p = I p := fun p hp => by
      simp only [List.mem_cons, List.not_mem_nil, or_false, not_or] at hp
      rw [f2 p hp.2.2.2.1 hp.2.2.2.2.1 hp.2.2.2.2.2.1 hp.2.2.2.2.2.2, f1 p hp.1 hp.2.1 hp.2.2.1]
    have hp26 : ∀ i, i ≠ 0 → I2 26 i = I 26 i := fun i hi => by rw [p2 i hi, f1 26 (by decide) (by decide) (by decide)]
    refine ⟨I2, J1, ⟨_, _, _, n, h, kd, fa, fb, ly, R, ⟨z1.of (f2 2 (by decide) (by decide) (by decide) (by decide)) (f2 3 (by decide) (by decide) (by decide) (by decide)) (f2 4 (by decide) (by decide) (by decide) (by decide)), w1, z2.1, z2.2.1, z2.2.2⟩, ?_, ?_, hlen, hC.of fun p hp => hf p ?_, hM.of (hp26 14 (by decide)) (hp26 19 (by decide)) (hf 38 (by decide)) (hf 39 (by decide)) (hf 40 (by decide)) (hf 42 (by decide)), hw, ?_, ?_⟩, fun rr => b145_112 h1 h2 h3 h4 h5 r1 (b145_147 h1 h2 h3 h4 h5 r2 (b145_183 r3 (b145_189 (fun _ => b145_196 (fun _ => b145_213 rr) (fun _ => b145_201 (fun _ => b145_213 rr) (fun z => absurd ?_ z))) (fun z => absurd rfl z))))⟩
    · rw [hf 11 (by decide), hf 12 (by decide)]; exact hR1
    · rw [hp26 8 (by decide), hf 34 (by decide)]; exact hR2
    · simp only [List.mem_cons, List.not_mem_nil, or_false, not_or] at hp ⊢; omega
    · rw [hf 0 (by decide), hp26 25 (by decide)]; exact e8
    · rw [g1 0 (by decide) (by decide) (by decide) (by decide) (by decide), g1 26 (by decide) (by decide) (by decide) (by decide) (by decide)]; exact e9
    · rw [z3, w2]; exact lgcr _
  · obtain ⟨rfl, rfl⟩ := u1 hk0
    refine ⟨I2, J1, ⟨cnt, fld, fty, n, h, kd, fa, fb, ly, R, hL.fr (fun p hp => u2 hk0 p (by rintro rfl; simp at hp)) (fun i hi => p2 i (by rintro rfl; simp at hi)) (fun _ _ => rfl) rfl⟩, fun rr => b145_112 h1 h2 h3 h4 h5 r1 (b145_147 h1 h2 h3 h4 h5 r2 (b145_183 r3 (b145_189 (fun _ => b145_196 (fun _ => b145_213 rr) (fun z => absurd hk0 z)) (fun z => absurd rfl z))))⟩
theorem L1 (hL : LI I J) (h1 : vp_in (nI i + 1) X.1) (h2 : vp_in (nI i + 2) X.1) : ∃ I' J', LI I' J' ∧ ∀ {mc ms : Nat} {o : mm_O} {σ' : mm_S}, mm_Run l X 145 (d + 31) 972 [.retAddr 0, .ref 0, .ref 26, .ref 45, .int (nI i), .null, .null, .null] [] (mm_Λ, I', J') mc ms o σ' → mm_Run l X 145 (d + 31) 216 [.retAddr 0, .ref 0, .ref 26, .ref 45, .int (nI i), .null, .null, .null] [] (mm_Λ, I, J) (1 + mc) (6 + ms) o σ' := by
  obtain ⟨cnt, fld, fty, n, h, kd, fa, fb, ly, R, hL⟩ := hL
  have hT := hL.1
  obtain ⟨k, hk⟩ := dbar_ex (X.2 (nI i + 1).toNatClampNeg) (X.2 (nI i + 2).toNatClampNeg)
  obtain ⟨J1, r1, f1, a1⟩ := h_count (l := l) (X := X) (d := d + 28) hk hT
  have hT1 : TI cnt fld fty I J1 := hT.same (fun _ _ => rfl) (fun p hp => f1 p (by rintro rfl; simp at hp))
  obtain ⟨b, J2, r2, f2, a2⟩ := m_count (l := l) (X := X) (d := d + 27) (mc := 0) (ms := 0) hk hT1
  have r3 := c100k (l := l) (X := X) (d := d + 30) (I := mm_set I 26 0 k) (J := J2) (mc := 0) (ms := 0) mm_at
  refine ⟨mm_set I 26 0 k, J2, ⟨cnt, fld, fty, n, h, kd, fa, fb, ly, R, hL.thrown fun p hp => ?_⟩, fun rr => b145_216 h1 h2 r1 (b145_233 h1 h2 r2 (b145_251 r3 (b145_257 (fun _ => b145_264 (fun _ => b145_280 rr) (fun z => b145_269 (fun _ => b145_280 rr) (fun z1 => absurd ?_ z1))) (fun z => absurd rfl z))))⟩
  · rw [f2 p (by rintro rfl; simp at hp), f1 p (by rintro rfl; simp at hp)]
  · have hk0 := Decidable.not_not.mp z
    obtain ⟨t, e, ht, he, ex, ey, eb⟩ := a2 hk0
    rw [f2 45 (by decide), a1 hk0 t e ht he ex ey, eb]
    exact lgcr _
theorem L2 (hL : LI I J) (h1 : vp_in (nI i + 1) X.1) (h2 : vp_in (nI i + 2) X.1) (h3 : vp_in (nI i + 3) X.1) (h4 : vp_in (nI i + 4) X.1) : ∃ I' J', LI I' J' ∧ ∀ {mc ms : Nat} {o : mm_O} {σ' : mm_S}, mm_Run l X 145 (d + 31) 972 [.retAddr 0, .ref 0, .ref 26, .ref 45, .int (nI i), .null, .null, .null] [] (mm_Λ, I', J') mc ms o σ' → mm_Run l X 145 (d + 31) 283 [.retAddr 0, .ref 0, .ref 26, .ref 45, .int (nI i), .null, .null, .null] [] (mm_Λ, I, J) (1 + mc) (6 + ms) o σ' := by
  obtain ⟨cnt, fld, fty, n, h, kd, fa, fb, ly, R, hL⟩ := hL
  obtain ⟨hT, hR1, hR2, hlen, hC, hM, hw, e8, e9⟩ := id hL
  obtain ⟨k, hk⟩ := wbar_ex cnt fld fty (X.2 (nI i + 1).toNatClampNeg) (X.2 (nI i + 2).toNatClampNeg) (((X.2 (nI i + 3).toNatClampNeg).toInt64 <<< ((32 : Int32).toInt64 &&& 63)) ||| ((X.2 (nI i + 4).toNatClampNeg).toInt64 &&& 4294967295))
  obtain ⟨I1, J1, r1, u1, v1⟩ := h_show (l := l) (X := X) (d := d + 21) hT hk
  have fI1 : ∀ r, r ∉ [11, 12, 14, 15, 16] → I1 r = I r := fun r hr => by
    by_cases hk0 : k = 0
    · obtain ⟨t, e, n', -, -, -, -, -, -, -, -, f, -⟩ := v1 hk0
      exact f r hr
    · rw [(u1 hk0).1]
  have fJ1 : ∀ r, r ≠ 45 → J1 r = J r := fun r hr => by
    by_cases hk0 : k = 0
    · obtain ⟨t, e, n', -, -, -, -, -, -, -, -, -, f⟩ := v1 hk0
      rw [f, mm_set_ne hr]
    · rw [(u1 hk0).2]
  have hT1 : TI cnt fld fty I1 J1 := hT.same (fun p hp => fI1 p (by intro z; simp only [List.mem_cons, List.not_mem_nil, or_false] at hp z; omega)) (fun p hp => fJ1 p (by rintro rfl; simp at hp))
  obtain ⟨b, I2, J2, r2, t2, f2, g2, p2, u2, v2⟩ := m_show (l := l) (X := X) (d := d + 26) (mc := 0) (ms := 0) hT1 hk
  have r3 := c100k (l := l) (X := X) (d := d + 30) (J := J2) (mc := 0) (ms := 0) t2
  have hfr : ∀ R', RW (I1 11 1) (I1 12) R' → RW (I2 26 8) (I2 34) R' → R'.length ≤ 121 → LJ cnt fld fty n h kd fa fb ly R' I2 J2 := fun R' q1 q2 q3 => by
    have hf : ∀ p, p ∉ [11, 12, 14, 15, 16, 26, 32, 33, 34, 35, 36] → I2 p = I p := fun p hp => by
      rw [f2 p (by intro z; apply hp; simp only [List.mem_cons, List.not_mem_nil, or_false] at z ⊢; omega), fI1 p (by intro z; apply hp; simp only [List.mem_cons, List.not_mem_nil, or_false] at z ⊢; omega)]
    have hp26 : ∀ i, i ∉ [0, 8, 10] → I2 26 i = I 26 i := fun i hi => by rw [p2 i hi, fI1 26 (by decide)]
    have hJ2 : ∀ p, p ∉ [30, 37, 45] → J2 p = J p := fun p hp => by
      rw [g2 p (by intro z; apply hp; simp only [List.mem_cons, List.not_mem_nil, or_false] at z ⊢; omega), fJ1 p (by rintro rfl; exact hp (by decide))]
    refine ⟨hT.same (fun p hp => hf p (by intro z; simp only [List.mem_cons, List.not_mem_nil, or_false] at hp z; omega)) (fun p hp => hJ2 p (by intro z; simp only [List.mem_cons, List.not_mem_nil, or_false] at hp z; omega)), ?_, q2, q3, hC.of fun p hp => hf p (by intro z; simp only [List.mem_cons, List.not_mem_nil, or_false] at hp z; omega), hM.of (hp26 14 (by decide)) (hp26 19 (by decide)) (hf 38 (by decide)) (hf 39 (by decide)) (hf 40 (by decide)) (hf 42 (by decide)), hw, ?_, ?_⟩
    · rw [f2 11 (by decide), f2 12 (by decide)]; exact q1
    · rw [hf 0 (by decide), hp26 25 (by decide)]; exact e8
    · rw [hJ2 0 (by decide), hJ2 26 (by decide)]; exact e9
  by_cases hk0 : k = 0
  · obtain ⟨t, e, n', ht, he, ex, ey, ez, hn', z1, z2, z3, z4⟩ := v1 hk0
    obtain ⟨w1, w2⟩ := v2 hk0 t e n' ht he ex ey ez hn'
    refine ⟨I2, J2, ⟨cnt, fld, fty, n, h, kd, fa, fb, ly, _, hfr _ z1 w1 z2⟩, fun rr => b145_283 h1 h2 h3 h4 r1 (b145_322 h1 h2 h3 h4 r2 (b145_362 r3 (b145_368 (fun _ => b145_375 (fun _ => b145_392 rr) (fun z => b145_380 (fun _ => b145_392 rr) (fun z1 => absurd ?_ z1))) (fun z => absurd rfl z))))⟩
    rw [g2 45 (by decide), z4, mm_at, w2]
    exact lgcr _
  · obtain ⟨y1, y2⟩ := u2 hk0
    refine ⟨I2, J2, ⟨cnt, fld, fty, n, h, kd, fa, fb, ly, R, hfr R (by rw [(u1 hk0).1]; exact hR1) (by rw [y1, y2, fI1 26 (by decide), fI1 34 (by decide)]; exact hR2) hlen⟩, fun rr => b145_283 h1 h2 h3 h4 r1 (b145_322 h1 h2 h3 h4 r2 (b145_362 r3 (b145_368 (fun _ => b145_375 (fun _ => b145_392 rr) (fun z => absurd hk0 z)) (fun z => absurd rfl z))))⟩
theorem L3 (hL : LI I J) (h1 : vp_in (nI i + 1) X.1) (h2 : vp_in (nI i + 2) X.1) : ∃ I' J', LI I' J' ∧ ∀ {mc ms : Nat} {o : mm_O} {σ' : mm_S}, mm_Run l X 145 (d + 31) 972 [.retAddr 0, .ref 0, .ref 26, .ref 45, .int (nI i), .null, .null, .null] [] (mm_Λ, I', J') mc ms o σ' → mm_Run l X 145 (d + 31) 395 [.retAddr 0, .ref 0, .ref 26, .ref 45, .int (nI i), .null, .null, .null] [] (mm_Λ, I, J) (1 + mc) (6 + ms) o σ' := by
  obtain ⟨cnt, fld, fty, n, h, kd, fa, fb, ly, R, hL⟩ := hL
  have hT := hL.1
  obtain ⟨k, hk⟩ := sbar_ex (X.2 (nI i + 1).toNatClampNeg) (X.2 (nI i + 2).toNatClampNeg)
  obtain ⟨J1, r1, f1, a1⟩ := h_sized (l := l) (X := X) (d := d + 28) hk hT
  have hT1 : TI cnt fld fty I J1 := hT.same (fun _ _ => rfl) (fun p hp => f1 p (by rintro rfl; simp at hp))
  obtain ⟨b, J2, r2, f2, a2⟩ := m_sized (l := l) (X := X) (d := d + 26) (mc := 0) (ms := 0) hk hT1
  have r3 := c100k (l := l) (X := X) (d := d + 30) (I := mm_set I 26 0 k) (J := J2) (mc := 0) (ms := 0) mm_at
  refine ⟨mm_set I 26 0 k, J2, ⟨cnt, fld, fty, n, h, kd, fa, fb, ly, R, hL.thrown fun p hp => ?_⟩, fun rr => b145_395 h1 h2 r1 (b145_412 h1 h2 r2 (b145_430 r3 (b145_436 (fun _ => b145_443 (fun _ => b145_459 rr) (fun z => b145_448 (fun _ => b145_459 rr) (fun z1 => absurd ?_ z1))) (fun z => absurd rfl z))))⟩
  · rw [f2 p (by rintro rfl; simp at hp), f1 p (by rintro rfl; simp at hp)]
  · have hk0 := Decidable.not_not.mp z
    obtain ⟨t, s, ht, hs1, hs2, ex, ey, eb⟩ := a2 hk0
    rw [f2 45 (by decide), a1 hk0 t s ht hs1 hs2 ex ey, eb]
    exact lgcr _
theorem L4 (hL : LI I J) (h1 : vp_in (nI i + 1) X.1) (h2 : vp_in (nI i + 2) X.1) (h3 : vp_in (nI i + 3) X.1) (h4 : vp_in (nI i + 4) X.1) : ∃ I' J', LI I' J' ∧ ∀ {mc ms : Nat} {o : mm_O} {σ' : mm_S}, mm_Run l X 145 (d + 31) 972 [.retAddr 0, .ref 0, .ref 26, .ref 45, .int (nI i), .null, .null, .null] [] (mm_Λ, I', J') mc ms o σ' → mm_Run l X 145 (d + 31) 462 [.retAddr 0, .ref 0, .ref 26, .ref 45, .int (nI i), .null, .null, .null] [] (mm_Λ, I, J) (1 + mc) (6 + ms) o σ' := by
  obtain ⟨cnt, fld, fty, n, h, kd, fa, fb, ly, R, hL⟩ := hL
  obtain ⟨hT, hR1, hR2, hlen, hC, hM, hw, e8, e9⟩ := id hL
  obtain ⟨k, hk⟩ := zbar_ex hT.1.tw (X.2 (nI i + 1).toNatClampNeg) (X.2 (nI i + 2).toNatClampNeg) (((X.2 (nI i + 3).toNatClampNeg).toInt64 <<< ((32 : Int32).toInt64 &&& 63)) ||| ((X.2 (nI i + 4).toNatClampNeg).toInt64 &&& 4294967295))
  obtain ⟨I1, J1, r1, u1, v1⟩ := h_showSized (l := l) (X := X) (d := d) hT hk
  have fI1 : ∀ r, r ∉ [11, 12, 18] → I1 r = I r := fun r hr => by
    by_cases hk0 : k = 0
    · obtain ⟨t, s, n', -, -, -, -, -, -, -, -, -, f, -⟩ := v1 hk0
      exact f r hr
    · rw [(u1 hk0).1]
  have fJ1 : ∀ r, r ≠ 45 → J1 r = J r := fun r hr => by
    by_cases hk0 : k = 0
    · obtain ⟨t, s, n', -, -, -, -, -, -, -, -, -, -, f⟩ := v1 hk0
      rw [f, mm_set_ne hr]
    · rw [(u1 hk0).2]
  have hT1 : TI cnt fld fty I1 J1 := hT.same (fun p hp => fI1 p (by intro z; simp only [List.mem_cons, List.not_mem_nil, or_false] at hp z; omega)) (fun p hp => fJ1 p (by rintro rfl; simp at hp))
  obtain ⟨b, I2, J2, r2, t2, f2, g2, p2, u2, v2⟩ := m_showSized (l := l) (X := X) (d := d + 26) (mc := 0) (ms := 0) hT1 hk
  have r3 := c100k (l := l) (X := X) (d := d + 30) (J := J2) (mc := 0) (ms := 0) t2
  have hfr : ∀ R', RW (I1 11 1) (I1 12) R' → RW (I2 26 8) (I2 34) R' → R'.length ≤ 121 → LJ cnt fld fty n h kd fa fb ly R' I2 J2 := fun R' q1 q2 q3 => by
    have hf : ∀ p, p ∉ [11, 12, 18, 26, 34, 35, 36] → I2 p = I p := fun p hp => by
      rw [f2 p (by intro z; apply hp; simp only [List.mem_cons, List.not_mem_nil, or_false] at z ⊢; omega), fI1 p (by intro z; apply hp; simp only [List.mem_cons, List.not_mem_nil, or_false] at z ⊢; omega)]
    have hp26 : ∀ i, i ∉ [0, 8, 10] → I2 26 i = I 26 i := fun i hi => by rw [p2 i hi, fI1 26 (by decide)]
    have hJ2 : ∀ p, p ∉ [31, 37, 45] → J2 p = J p := fun p hp => by
      rw [g2 p (by intro z; apply hp; simp only [List.mem_cons, List.not_mem_nil, or_false] at z ⊢; omega), fJ1 p (by rintro rfl; exact hp (by decide))]
    refine ⟨hT.same (fun p hp => hf p (by intro z; simp only [List.mem_cons, List.not_mem_nil, or_false] at hp z; omega)) (fun p hp => hJ2 p (by intro z; simp only [List.mem_cons, List.not_mem_nil, or_false] at hp z; omega)), ?_, q2, q3, hC.of fun p hp => hf p (by intro z; simp only [List.mem_cons, List.not_mem_nil, or_false] at hp z; omega), hM.of (hp26 14 (by decide)) (hp26 19 (by decide)) (hf 38 (by decide)) (hf 39 (by decide)) (hf 40 (by decide)) (hf 42 (by decide)), hw, ?_, ?_⟩
    · rw [f2 11 (by decide), f2 12 (by decide)]; exact q1
    · rw [hf 0 (by decide), hp26 25 (by decide)]; exact e8
    · rw [hJ2 0 (by decide), hJ2 26 (by decide)]; exact e9
  by_cases hk0 : k = 0
  · obtain ⟨t, s, n', ht, hs1, hs2, ex, ey, ez, hn', z1, z2, z3, z4⟩ := v1 hk0
    obtain ⟨w1, w2⟩ := v2 hk0 t s n' ht hs1 hs2 ex ey ez hn'
    refine ⟨I2, J2, ⟨cnt, fld, fty, n, h, kd, fa, fb, ly, _, hfr _ z1 w1 (by rw [z2]; omega)⟩, fun rr => b145_462 h1 h2 h3 h4 r1 (b145_501 h1 h2 h3 h4 r2 (b145_541 r3 (b145_547 (fun _ => b145_554 (fun _ => b145_571 rr) (fun z => b145_559 (fun _ => b145_571 rr) (fun z1 => absurd ?_ z1))) (fun z => absurd rfl z))))⟩
    rw [g2 45 (by decide), z4, mm_at, w2]
    exact lgcr _
  · obtain ⟨y1, y2⟩ := u2 hk0
    refine ⟨I2, J2, ⟨cnt, fld, fty, n, h, kd, fa, fb, ly, R, hfr R (by rw [(u1 hk0).1]; exact hR1) (by rw [y1, y2, fI1 26 (by decide), fI1 34 (by decide)]; exact hR2) hlen⟩, fun rr => b145_462 h1 h2 h3 h4 r1 (b145_501 h1 h2 h3 h4 r2 (b145_541 r3 (b145_547 (fun _ => b145_554 (fun _ => b145_571 rr) (fun z => absurd hk0 z)) (fun z => absurd rfl z))))⟩
theorem atI_eq {n1 n2 j : Int32} {f g : Nat → Int32} (h1 : RW n1 f R) (h2 : RW n2 g R) (hl : R.length ≤ 121) : atI n1 f j = atI n2 g j := by
  unfold atI
  rw [h1.1, h2.1]
  by_cases hj : j < 0 ∨ nI R.length ≤ j
  · rw [if_pos hj, if_pos hj]
  · rw [if_neg hj, if_neg hj]
    obtain ⟨m, hm, rfl⟩ := nI_of (fun z => hj (Or.inl z))
    have hlt : m < R.length := Nat.lt_of_not_le fun z => hj (Or.inr (nI_le z hm))
    rw [ix_cl (by omega)]
    have e := List.getElem?_eq_getElem hlt
    rw [h1.2 m _ e, h2.2 m _ e]
theorem L5 (hL : LI I J) (h1 : vp_in (nI i + 1) X.1) : ∃ I' J', LI I' J' ∧ ∀ {mc ms : Nat} {o : mm_O} {σ' : mm_S}, mm_Run l X 145 (d + 31) 972 [.retAddr 0, .ref 0, .ref 26, .ref 45, .int (nI i), .null, .null, .null] [] (mm_Λ, I', J') mc ms o σ' → mm_Run l X 145 (d + 31) 574 [.retAddr 0, .ref 0, .ref 26, .ref 45, .int (nI i), .null, .null, .null] [] (mm_Λ, I, J) mc ms o σ' := by
  obtain ⟨cnt, fld, fty, n, h, kd, fa, fb, ly, R, hL⟩ := hL
  obtain ⟨hT, hR1, hR2, hlen, hC, hM, hw, e8, e9⟩ := id hL
  have r1 := c9 (l := l) (X := X) (d := d + 29) (I := I) (J := J) (mc := 0) (ms := 0) (X.2 (nI i + 1).toNatClampNeg) (by rw [hR1.1]; exact nI_le (b := 121) hlen (by omega))
  have r2 := c125 (l := l) (X := X) (d := d + 30) (I := I) (J := J) (mc := 0) (ms := 0) (X.2 (nI i + 1).toNatClampNeg) (by rw [hR2.1]; exact nI_le (b := 121) hlen (by omega))
  exact ⟨mm_set I 26 0 0, J, ⟨cnt, fld, fty, n, h, kd, fa, fb, ly, R, hL.thrown fun _ _ => rfl⟩, fun rr => b145_574 h1 r1 (b145_584 h1 r2 (b145_594 (fun _ => rr) (fun z => absurd (atI_eq hR1 hR2 hlen) z)))⟩
theorem L6 (hL : LI I J) (h1 : vp_in (nI i + 1) X.1) (h2 : vp_in (nI i + 2) X.1) : ∃ I' J', LI I' J' ∧ ∀ {mc ms : Nat} {o : mm_O} {σ' : mm_S}, mm_Run l X 145 (d + 31) 972 [.retAddr 0, .ref 0, .ref 26, .ref 45, .int (nI i), .null, .null, .null] [] (mm_Λ, I', J') mc ms o σ' → mm_Run l X 145 (d + 31) 599 [.retAddr 0, .ref 0, .ref 26, .ref 45, .int (nI i), .null, .null, .null] [] (mm_Λ, I, J) (1 + mc) (6 + ms) o σ' := by
  obtain ⟨cnt, fld, fty, n, h, kd, fa, fb, ly, R, hL⟩ := hL
  obtain ⟨hT, hR1, hR2, hlen, hC, hM, hw, e8, e9⟩ := id hL
  obtain ⟨k, hk⟩ := tbar_ex hw.1 (X.2 (nI i + 1).toNatClampNeg) (X.2 (nI i + 2).toNatClampNeg)
  obtain ⟨I1, J1, r1, u1, v1⟩ := h_test (l := l) (X := X) (d := d + 27) (J := J) hC hw.2.1 hk
  have fI1 : ∀ p, p ∉ [19, 20, 21, 22, 23] → I1 p = I p := fun p hp => by
    by_cases hk0 : k = 0
    · obtain ⟨-, a, b, -, -, -, -, z⟩ := v1 hk0
      exact z.2.1 p hp
    · rw [(u1 hk0).1]
  have hM1 : PM n h kd fa fb ly I1 := hM.of (by rw [fI1 26 (by decide)]) (by rw [fI1 26 (by decide)]) (fI1 38 (by decide)) (fI1 39 (by decide)) (fI1 40 (by decide)) (fI1 42 (by decide))
  obtain ⟨r, I2, r2, t2, u2, v2⟩ := m_test (l := l) (X := X) (d := d + 28) (J := J1) (mc := 0) (ms := 0) hM1 hw.2.1 hk
  have r3 := c100k (l := l) (X := X) (d := d + 30) (J := J1) (mc := 0) (ms := 0) t2
  by_cases hk0 : k = 0
  · obtain ⟨hn, a, b, ha, hb, ex, ey, z⟩ := v1 hk0
    obtain ⟨w1, w2⟩ := v2 hk0
    obtain ⟨y1, y2, y3⟩ := w2 a b (isPb_lt ha) hb ex ey
    refine ⟨I2, J1, ⟨cnt, fld, fty, n + 1, h + 1, _, _, _, _, R, hT.same (fun p hp => ?_) (fun p hp => ?_), ?_, ?_, hlen, z.1.of fun p hp => y2 p ?_, y1, hw.put (h' := h) (q := 3) (x := a) (y := b) hn (Nat.le_refl _) (by omega) (fun z => by omega) (fun _ => ⟨ha, hb⟩) (fun z => by omega), ?_, ?_⟩, fun rr => b145_599 h1 h2 r1 (b145_616 h1 h2 r2 (b145_634 r3 (b145_640 (fun _ => b145_647 (fun _ => b145_664 rr) (fun _ => b145_652 (fun _ => b145_664 rr) (fun z1 => absurd ?_ z1))) (fun z => absurd rfl z))))⟩
    · rw [y2 p (by intro z; simp only [List.mem_cons, List.not_mem_nil, or_false] at hp z; omega), fI1 p (by intro z; simp only [List.mem_cons, List.not_mem_nil, or_false] at hp z; omega)]
    · rw [z.2.2, mm_set_ne (by rintro rfl; simp at hp)]
    · rw [y2 11 (by decide), y2 12 (by decide), fI1 11 (by decide), fI1 12 (by decide)]; exact hR1
    · rw [y3 8 (by decide) (by decide) (by decide), y2 34 (by decide), fI1 26 (by decide), fI1 34 (by decide)]; exact hR2
    · simp only [List.mem_cons, List.not_mem_nil, or_false, not_or] at hp ⊢; omega
    · rw [y2 0 (by decide), y3 25 (by decide) (by decide) (by decide), fI1 0 (by decide), fI1 26 (by decide)]; exact e8
    · rw [z.2.2, mm_set_ne (by decide), mm_set_ne (by decide)]; exact e9
    · rw [z.2.2, mm_at, w1]; exact lgcr _
  · obtain ⟨rfl, rfl⟩ := u1 hk0
    obtain ⟨y1, y2⟩ := u2 hk0
    refine ⟨I2, J1, ⟨cnt, fld, fty, n, h, kd, fa, fb, ly, R, hL.fr (fun p hp => y1 p (by rintro rfl; simp at hp)) (fun i hi => y2 i (by rintro rfl; simp at hi)) (fun _ _ => rfl) rfl⟩, fun rr => b145_599 h1 h2 r1 (b145_616 h1 h2 r2 (b145_634 r3 (b145_640 (fun _ => b145_647 (fun _ => b145_664 rr) (fun z => absurd hk0 z)) (fun z => absurd rfl z))))⟩
theorem L7 (hL : LI I J) (h1 : vp_in (nI i + 1) X.1) (h2 : vp_in (nI i + 2) X.1) : ∃ I' J', LI I' J' ∧ ∀ {mc ms : Nat} {o : mm_O} {σ' : mm_S}, mm_Run l X 145 (d + 31) 972 [.retAddr 0, .ref 0, .ref 26, .ref 45, .int (nI i), .null, .null, .null] [] (mm_Λ, I', J') mc ms o σ' → mm_Run l X 145 (d + 31) 667 [.retAddr 0, .ref 0, .ref 26, .ref 45, .int (nI i), .null, .null, .null] [] (mm_Λ, I, J) (1 + mc) (6 + ms) o σ' := by
  obtain ⟨cnt, fld, fty, n, h, kd, fa, fb, ly, R, hL⟩ := hL
  obtain ⟨hT, hR1, hR2, hlen, hC, hM, hw, e8, e9⟩ := id hL
  obtain ⟨k, hk⟩ := ebar_ex hw.1 (X.2 (nI i + 1).toNatClampNeg) (X.2 (nI i + 2).toNatClampNeg)
  obtain ⟨I1, J1, r1, u1, v1⟩ := h_same (l := l) (X := X) (d := d + 27) (J := J) hC hw.2.1 hk
  have fI1 : ∀ p, p ∉ [19, 20, 21, 22, 23] → I1 p = I p := fun p hp => by
    by_cases hk0 : k = 0
    · obtain ⟨-, a, b, -, -, -, -, z⟩ := v1 hk0
      exact z.2.1 p hp
    · rw [(u1 hk0).1]
  have hM1 : PM n h kd fa fb ly I1 := hM.of (by rw [fI1 26 (by decide)]) (by rw [fI1 26 (by decide)]) (fI1 38 (by decide)) (fI1 39 (by decide)) (fI1 40 (by decide)) (fI1 42 (by decide))
  obtain ⟨r, I2, r2, t2, u2, v2⟩ := m_same (l := l) (X := X) (d := d + 28) (J := J1) (mc := 0) (ms := 0) hM1 hw.2.1 hk
  have r3 := c100k (l := l) (X := X) (d := d + 30) (J := J1) (mc := 0) (ms := 0) t2
  by_cases hk0 : k = 0
  · obtain ⟨hn, a, b, ha, hb, ex, ey, z⟩ := v1 hk0
    obtain ⟨w1, w2⟩ := v2 hk0
    obtain ⟨y1, y2, y3⟩ := w2 a b (isPb_lt ha) (isPb_lt hb) ex ey
    refine ⟨I2, J1, ⟨cnt, fld, fty, n + 1, h + 1, _, _, _, _, R, hT.same (fun p hp => ?_) (fun p hp => ?_), ?_, ?_, hlen, z.1.of fun p hp => y2 p ?_, y1, hw.put (h' := h) (q := 4) (x := a) (y := b) hn (Nat.le_refl _) (by omega) (fun z => by omega) (fun z => by omega) (fun _ => ⟨ha, hb⟩), ?_, ?_⟩, fun rr => b145_667 h1 h2 r1 (b145_684 h1 h2 r2 (b145_702 r3 (b145_708 (fun _ => b145_715 (fun _ => b145_732 rr) (fun _ => b145_720 (fun _ => b145_732 rr) (fun z1 => absurd ?_ z1))) (fun z => absurd rfl z))))⟩
    · rw [y2 p (by intro z; simp only [List.mem_cons, List.not_mem_nil, or_false] at hp z; omega), fI1 p (by intro z; simp only [List.mem_cons, List.not_mem_nil, or_false] at hp z; omega)]
    · rw [z.2.2, mm_set_ne (by rintro rfl; simp at hp)]
    · rw [y2 11 (by decide), y2 12 (by decide), fI1 11 (by decide), fI1 12 (by decide)]; exact hR1
    · rw [y3 8 (by decide) (by decide) (by decide), y2 34 (by decide), fI1 26 (by decide), fI1 34 (by decide)]; exact hR2
    · simp only [List.mem_cons, List.not_mem_nil, or_false, not_or] at hp ⊢; omega
    · rw [y2 0 (by decide), y3 25 (by decide) (by decide) (by decide), fI1 0 (by decide), fI1 26 (by decide)]; exact e8
    · rw [z.2.2, mm_set_ne (by decide), mm_set_ne (by decide)]; exact e9
    · rw [z.2.2, mm_at, w1]; exact lgcr _
  · obtain ⟨rfl, rfl⟩ := u1 hk0
    obtain ⟨y1, y2⟩ := u2 hk0
    refine ⟨I2, J1, ⟨cnt, fld, fty, n, h, kd, fa, fb, ly, R, hL.fr (fun p hp => y1 p (by rintro rfl; simp at hp)) (fun i hi => y2 i (by rintro rfl; simp at hi)) (fun _ _ => rfl) rfl⟩, fun rr => b145_667 h1 h2 r1 (b145_684 h1 h2 r2 (b145_702 r3 (b145_708 (fun _ => b145_715 (fun _ => b145_732 rr) (fun z => absurd hk0 z)) (fun z => absurd rfl z))))⟩
theorem L8 (hL : LI I J) (h1 : vp_in (nI i + 1) X.1) : ∃ I' J', LI I' J' ∧ ∀ {mc ms : Nat} {o : mm_O} {σ' : mm_S}, mm_Run l X 145 (d + 31) 972 [.retAddr 0, .ref 0, .ref 26, .ref 45, .int (nI i), .null, .null, .null] [] (mm_Λ, I', J') mc ms o σ' → mm_Run l X 145 (d + 31) 735 [.retAddr 0, .ref 0, .ref 26, .ref 45, .int (nI i), .null, .null, .null] [] (mm_Λ, I, J) (1 + mc) (6 + ms) o σ' := by
  obtain ⟨cnt, fld, fty, n, h, kd, fa, fb, ly, R, hL⟩ := hL
  obtain ⟨hT, hR1, hR2, hlen, hC, hM, hw, e8, e9⟩ := id hL
  obtain ⟨k, hk⟩ := jbar_ex (h := h) hw.1 (X.2 (nI i + 1).toNatClampNeg)
  obtain ⟨I1, J1, r1, u1, v1⟩ := h_combine (l := l) (X := X) (d := d + 27) (J := J) hC hw.2.1 hw.1 hk
  have fI1 : ∀ p, p ∉ [19, 20, 21, 22, 23] → I1 p = I p := fun p hp => by
    by_cases hk0 : k = 0
    · obtain ⟨-, q, -, -, -, z⟩ := v1 hk0
      exact z.2.1 p hp
    · rw [(u1 hk0).1]
  have hM1 : PM n h kd fa fb ly I1 := hM.of (by rw [fI1 26 (by decide)]) (by rw [fI1 26 (by decide)]) (fI1 38 (by decide)) (fI1 39 (by decide)) (fI1 40 (by decide)) (fI1 42 (by decide))
  obtain ⟨r, I2, r2, t2, u2, v2⟩ := m_combine (l := l) (X := X) (d := d + 28) (J := J1) (mc := 0) (ms := 0) hM1 hw.2.1 hw.1 hk
  have r3 := c100k (l := l) (X := X) (d := d + 30) (J := J1) (mc := 0) (ms := 0) t2
  by_cases hk0 : k = 0
  · obtain ⟨hn, q, hq, ex, ho, z⟩ := v1 hk0
    obtain ⟨w1, y1, y2, y3⟩ := v2 hk0 q hq ex
    have hop : 1 ≤ opn q := by unfold opn; split <;> omega
    have l1 := hw.2.2.2 (h - opn q) (by omega)
    have l2 := hw.2.2.2 (h - 1) (by omega)
    refine ⟨I2, J1, ⟨cnt, fld, fty, n + 1, h - opn q + 1, _, _, _, _, R, hT.same (fun p hp => ?_) (fun p hp => ?_), ?_, ?_, hlen, z.1.of fun p hp => y2 p ?_, y1, hw.put (h' := h - opn q) (q := q) (x := ly (h - opn q)) (y := ly (h - 1)) hn (by omega) (by omega) (fun _ => ⟨l1, l2⟩) (fun z => by omega) (fun z => by omega), ?_, ?_⟩, fun rr => b145_735 h1 r1 (b145_746 h1 r2 (b145_758 r3 (b145_764 (fun _ => b145_771 (fun _ => b145_788 rr) (fun _ => b145_776 (fun _ => b145_788 rr) (fun z1 => absurd ?_ z1))) (fun z => absurd rfl z))))⟩
    · rw [y2 p (by intro z; simp only [List.mem_cons, List.not_mem_nil, or_false] at hp z; omega), fI1 p (by intro z; simp only [List.mem_cons, List.not_mem_nil, or_false] at hp z; omega)]
    · rw [z.2.2, mm_set_ne (by rintro rfl; simp at hp)]
    · rw [y2 11 (by decide), y2 12 (by decide), fI1 11 (by decide), fI1 12 (by decide)]; exact hR1
    · rw [y3 8 (by decide) (by decide) (by decide), y2 34 (by decide), fI1 26 (by decide), fI1 34 (by decide)]; exact hR2
    · simp only [List.mem_cons, List.not_mem_nil, or_false, not_or] at hp ⊢; omega
    · rw [y2 0 (by decide), y3 25 (by decide) (by decide) (by decide), fI1 0 (by decide), fI1 26 (by decide)]; exact e8
    · rw [z.2.2, mm_set_ne (by decide), mm_set_ne (by decide)]; exact e9
    · rw [z.2.2, mm_at, w1]; exact lgcr _
  · obtain ⟨rfl, rfl⟩ := u1 hk0
    obtain ⟨y1, y2⟩ := u2 hk0
    refine ⟨I2, J1, ⟨cnt, fld, fty, n, h, kd, fa, fb, ly, R, hL.fr (fun p hp => y1 p (by rintro rfl; simp at hp)) (fun i hi => y2 i (by rintro rfl; simp at hi)) (fun _ _ => rfl) rfl⟩, fun rr => b145_735 h1 r1 (b145_746 h1 r2 (b145_758 r3 (b145_764 (fun _ => b145_771 (fun _ => b145_788 rr) (fun z => absurd hk0 z)) (fun z => absurd rfl z))))⟩
theorem L9 (hL : LI I J) : ∃ I' J', LI I' J' ∧ ∀ {mc ms : Nat} {o : mm_O} {σ' : mm_S}, mm_Run l X 145 (d + 31) 972 [.retAddr 0, .ref 0, .ref 26, .ref 45, .int (nI i), .null, .null, .null] [] (mm_Λ, I', J') mc ms o σ' → mm_Run l X 145 (d + 31) 791 [.retAddr 0, .ref 0, .ref 26, .ref 45, .int (nI i), .null, .null, .null] [] (mm_Λ, I, J) mc ms o σ' := by
  obtain ⟨cnt, fld, fty, n, h, kd, fa, fb, ly, R, hL⟩ := hL
  obtain ⟨hT, hR1, hR2, hlen, hC, hM, hw, e8, e9⟩ := id hL
  have r1 := c11 (l := l) (X := X) (d := d + 29) (I := I) (J := J) (mc := 0) (ms := 0)
  have r2 := c131 (l := l) (X := X) (d := d + 30) (I := mm_set (mm_set I 19 4 0) 19 5 0) (J := J) (mc := 0) (ms := 0)
  have hf : ∀ p, p ≠ 19 → p ≠ 26 → (mm_set (mm_set (mm_set (mm_set (mm_set I 19 4 0) 19 5 0) 26 0 0) 26 19 0) 26 14 0) p = I p := fun p a b => by
    rw [mm_set_ne b, mm_set_ne b, mm_set_ne b, mm_set_ne a, mm_set_ne a]
  refine ⟨_, J, ⟨cnt, fld, fty, 0, 0, kd, fa, fb, ly, R, hT.same (fun p hp => hf p (by rintro rfl; simp at hp) (by rintro rfl; simp at hp)) (fun _ _ => rfl), ?_, ?_, hlen, ⟨by simp [mm_set]; exact nI_0.symm, by simp [mm_set]; exact nI_0.symm, fun i hi => by omega, fun i hi => by omega⟩, ⟨by simp [mm_set]; exact nI_0.symm, by simp [mm_set]; exact nI_0.symm, fun i hi => by omega, fun i hi => by omega⟩, ⟨by omega, by omega, fun i hi => by omega, fun i hi => by omega⟩, ?_, e9⟩, fun rr => b145_791 r1 (b145_795 r2 (b145_799 rr))⟩
  · rw [hf 11 (by decide) (by decide), hf 12 (by decide) (by decide)]; exact hR1
  · rw [hf 34 (by decide) (by decide)]
    simp [mm_set]
    exact hR2
  · rw [hf 0 (by decide) (by decide)]
    simp [mm_set]
    exact e8
theorem L10 (hL : LI I J) (h1 : vp_in (nI i + 1) X.1) (h2 : vp_in (nI i + 2) X.1) : ∃ I' J', LI I' J' ∧ ∀ {mc ms : Nat} {o : mm_O} {σ' : mm_S}, mm_Run l X 145 (d + 31) 972 [.retAddr 0, .ref 0, .ref 26, .ref 45, .int (nI i), .null, .null, .null] [] (mm_Λ, I', J') mc ms o σ' → mm_Run l X 145 (d + 31) 802 [.retAddr 0, .ref 0, .ref 26, .ref 45, .int (nI i), .null, .null, .null] [] (mm_Λ, I, J) (1 + mc) (6 + ms) o σ' := by
  obtain ⟨cnt, fld, fty, n, h, kd, fa, fb, ly, R, hL⟩ := hL
  obtain ⟨hT, hR1, hR2, hlen, hC, hM, hw, e8, e9⟩ := id hL
  obtain ⟨k, hk⟩ := kbar_ex cnt fld fty h (X.2 (nI i + 1).toNatClampNeg) (X.2 (nI i + 2).toNatClampNeg)
  obtain ⟨I1, J1, r1, u1, v1⟩ := h_check (l := l) (X := X) (d := d) hT hC hw hk
  have fI1 : ∀ r, r ∉ [0, 11, 12, 14, 15, 16] → I1 r = I r := fun r hr => by
    by_cases hk0 : k = 0
    · obtain ⟨t, e, D, o, -, -, -, -, -, -, -, -, -, -, -, -, -, f, -⟩ := v1 hk0
      exact f r hr
    · rw [(u1 hk0).1]
  have fJ1 : ∀ r, r ∉ [0, 45] → J1 r = J r := fun r hr => by
    by_cases hk0 : k = 0
    · obtain ⟨t, e, D, o, -, -, -, -, -, -, -, -, -, -, -, -, -, -, f⟩ := v1 hk0
      exact f r hr
    · rw [(u1 hk0).2]
  have hT1 : TI cnt fld fty I1 J1 := hT.same (fun p hp => fI1 p (by intro z; simp only [List.mem_cons, List.not_mem_nil, or_false] at hp z; omega)) (fun p hp => fJ1 p (by intro z; simp only [List.mem_cons, List.not_mem_nil, or_false] at hp z; omega))
  have hM1 : PM n h kd fa fb ly I1 := hM.of (by rw [fI1 26 (by decide)]) (by rw [fI1 26 (by decide)]) (fI1 38 (by decide)) (fI1 39 (by decide)) (fI1 40 (by decide)) (fI1 42 (by decide))
  obtain ⟨b, I2, J2, r2, t2, f2, p2, g2, u2, v2⟩ := m_check (l := l) (X := X) (d := d + 25) (mc := 0) (ms := 0) hT1 hM1 hw hk
  have r3 := c100k (l := l) (X := X) (d := d + 30) (J := J2) (mc := 0) (ms := 0) t2
  have hf : ∀ p, p ∉ [0, 11, 12, 14, 15, 16, 26, 32, 33, 34, 35, 36, 41] → I2 p = I p := fun p hp => by
    rw [f2 p (by intro z; apply hp; simp only [List.mem_cons, List.not_mem_nil, or_false] at z ⊢; omega), fI1 p (by intro z; apply hp; simp only [List.mem_cons, List.not_mem_nil, or_false] at z ⊢; omega)]
  have hp26 : ∀ i, i ∉ [0, 8, 10, 25] → I2 26 i = I 26 i := fun i hi => by rw [p2 i hi, fI1 26 (by decide)]
  have hJ2 : ∀ p, p ∉ [0, 26, 30, 37, 45] → J2 p = J p := fun p hp => by
    rw [g2 p (by intro z; apply hp; simp only [List.mem_cons, List.not_mem_nil, or_false] at z ⊢; omega), fJ1 p (by intro z; apply hp; simp only [List.mem_cons, List.not_mem_nil, or_false] at z ⊢; omega)]
  have hfr : ∀ R', RW (I1 11 1) (I1 12) R' → RW (I2 26 8) (I2 34) R' → R'.length ≤ 121 → I1 0 8 = I2 26 25 → J1 0 9 = J2 26 26 → LJ cnt fld fty n h kd fa fb ly R' I2 J2 := fun R' q1 q2 q3 q4 q5 => by
    refine ⟨hT.same (fun p hp => hf p (by intro z; simp only [List.mem_cons, List.not_mem_nil, or_false] at hp z; omega)) (fun p hp => hJ2 p (by intro z; simp only [List.mem_cons, List.not_mem_nil, or_false] at hp z; omega)), ?_, q2, q3, hC.of fun p hp => hf p (by intro z; simp only [List.mem_cons, List.not_mem_nil, or_false] at hp z; omega), hM.of (hp26 14 (by decide)) (hp26 19 (by decide)) (hf 38 (by decide)) (hf 39 (by decide)) (hf 40 (by decide)) (hf 42 (by decide)), hw, ?_, ?_⟩
    · rw [f2 11 (by decide), f2 12 (by decide)]; exact q1
    · rw [f2 0 (by decide)]; exact q4
    · rw [g2 0 (by decide)]; exact q5
  by_cases hk0 : k = 0
  · obtain ⟨t, e, D, o, ht, he, ex, ey, eD, hD, hh, eo, y1, y2, y3, y4, y5, -, -⟩ := v1 hk0
    obtain ⟨w1, w2, w3, w4, w5⟩ := v2 hk0 t e D o ht he ex ey eD eo
    have fin : ∃ R', LJ cnt fld fty n h kd fa fb ly R' I2 J2 := by
      match o, y1, y2, y4, y5, w2, w3, w4, w5 with
      | none, y1, y2, y4, y5, w2, w3, w4, w5 =>
        obtain ⟨a1, a2⟩ := y4 rfl
        obtain ⟨b1, b2⟩ := w4 rfl
        exact ⟨R, hfr R (by rw [a1, a2]; exact hR1) (by rw [b1, b2, fI1 26 (by decide), fI1 34 (by decide)]; exact hR2) hlen (by rw [y1, w2]) (by rw [y2, w3])⟩
      | some j, y1, y2, y4, y5, w2, w3, w4, w5 =>
        obtain ⟨a1, a2⟩ := y5 j rfl
        exact ⟨_, hfr _ a1 (w5 j rfl) a2 (by rw [y1, w2]) (by rw [y2, w3])⟩
    obtain ⟨R', hR'⟩ := fin
    refine ⟨I2, J2, ⟨cnt, fld, fty, n, h, kd, fa, fb, ly, R', hR'⟩, fun rr => b145_802 h1 h2 r1 (b145_819 h1 h2 r2 (b145_837 r3 (b145_843 (fun _ => b145_850 (fun _ => b145_867 rr) (fun _ => b145_855 (fun _ => b145_867 rr) (fun z1 => absurd ?_ z1))) (fun z => absurd rfl z))))⟩
    rw [g2 45 (by decide), y3, w1]
    exact lgcr _
  · obtain ⟨y1, y2, y3, y4⟩ := u2 hk0
    obtain ⟨rfl, rfl⟩ := u1 hk0
    exact ⟨I2, J2, ⟨cnt, fld, fty, n, h, kd, fa, fb, ly, R, hfr R hR1 (by rw [y1, y2]; exact hR2) hlen (by rw [y3]; exact e8) (by rw [y4]; exact e9)⟩, fun rr => b145_802 h1 h2 r1 (b145_819 h1 h2 r2 (b145_837 r3 (b145_843 (fun _ => b145_850 (fun _ => b145_867 rr) (fun z => absurd hk0 z)) (fun z => absurd rfl z))))⟩
theorem rbar_ex (h : Nat) (x y : Int32) : (∃ k, rbar h x y k ∧ k ≠ 0) ∨ (∃ t e, t < 6 ∧ e < 5 ∧ x = nI t ∧ y = nI e ∧ 0 < h) := by
  by_cases h1 : isT x
  · by_cases h2 : isD y
    · by_cases h3 : h = 0
      · exact Or.inl ⟨3, Or.inr (Or.inr ⟨h1, h2, h3, rfl⟩), by decide⟩
      · obtain ⟨t, ht, e1⟩ := isT_nI h1
        obtain ⟨e, he, e2⟩ := isD_nI h2
        exact Or.inr ⟨t, e, ht, he, e1, e2, by omega⟩
    · exact Or.inl ⟨2, Or.inr (Or.inl ⟨h1, h2, rfl⟩), by decide⟩
  · exact Or.inl ⟨1, Or.inl ⟨h1, rfl⟩, by decide⟩
theorem L11 (hL : LI I J) (h1 : vp_in (nI i + 1) X.1) (h2 : vp_in (nI i + 2) X.1) : ∃ I' J', LI I' J' ∧ ∀ {mc ms : Nat} {o : mm_O} {σ' : mm_S}, mm_Run l X 145 (d + 31) 972 [.retAddr 0, .ref 0, .ref 26, .ref 45, .int (nI i), .null, .null, .null] [] (mm_Λ, I', J') mc ms o σ' → mm_Run l X 145 (d + 31) 870 [.retAddr 0, .ref 0, .ref 26, .ref 45, .int (nI i), .null, .null, .null] [] (mm_Λ, I, J) (1 + mc) (6 + ms) o σ' := by
  obtain ⟨cnt, fld, fty, n, h, kd, fa, fb, ly, R, hL⟩ := hL
  obtain ⟨hT, hR1, hR2, hlen, hC, hM, hw, e8, e9⟩ := id hL
  have hn := hw.1
  have hhn := hw.2.1
  rcases rbar_ex h (X.2 (nI i + 1).toNatClampNeg) (X.2 (nI i + 2).toNatClampNeg) with ⟨k, hk, hk0⟩ | ⟨t, e, ht, he, ex, ey, hh⟩
  · have r1 := h_refine_no (l := l) (X := X) (d := d) (J := J) hC hk
    have r2 := m_refine_no (l := l) (X := X) (d := d + 24) (J := J) (mc := 0) (ms := 0) hM (by omega) hk
    have r3 := c100k (l := l) (X := X) (d := d + 30) (I := mm_set I 26 0 k) (J := J) (mc := 0) (ms := 0) mm_at
    exact ⟨mm_set I 26 0 k, J, ⟨cnt, fld, fty, n, h, kd, fa, fb, ly, R, hL.thrown fun _ _ => rfl⟩, fun rr => b145_870 h1 h2 r1 (b145_887 h1 h2 r2 (b145_905 r3 (b145_911 (fun _ => b145_918 (fun _ => b145_942 rr) (fun z => absurd hk0 z)) (fun z => absurd rfl z))))⟩
  · obtain ⟨I1, J1, r1, y1, y2, y3, y4, y5, y6, fI1, fJ1⟩ := h_refine (l := l) (X := X) (d := d) hT hC hw hh ht he rfl
    have hT1 : TI cnt fld fty I1 J1 := hT.same (fun p hp => fI1 p (by intro z; simp only [List.mem_cons, List.not_mem_nil, or_false] at hp z; omega)) (fun p hp => fJ1 p (by intro z; simp only [List.mem_cons, List.not_mem_nil, or_false] at hp z; omega))
    have hM1 : PM n h kd fa fb ly I1 := hM.of (by rw [fI1 26 (by decide)]) (by rw [fI1 26 (by decide)]) (fI1 38 (by decide)) (fI1 39 (by decide)) (fI1 40 (by decide)) (fI1 42 (by decide))
    obtain ⟨b, I2, J2, r2, F2, w1, w2, w3, w4, w5, w6⟩ := m_refine (l := l) (X := X) (d := d + 24) (mc := 0) (ms := 0) hT1 hM1 hw hh ht he rfl
    have hR3 : (rfR cnt fld fty kd fa fb e t (ly (h - 1))).1 < 3 := rfS_lt _ _ _
    generalize rfR cnt fld fty kd fa fb e t (ly (h - 1)) = Q at *
    rw [← ex, ← ey] at r1 r2
    have r3 := c100k (l := l) (X := X) (d := d + 30) (J := J2) (mc := 0) (ms := 0) w3
    have hf : ∀ p, p ∉ [0, 11, 12, 14, 15, 16, 24, 25, 26, 32, 33, 34, 35, 36, 41, 43, 44] → I2 p = I p := fun p hp => by
      rw [F2.1 p (by intro z; apply hp; simp only [List.mem_cons, List.not_mem_nil, or_false] at z ⊢; omega), fI1 p (by intro z; apply hp; simp only [List.mem_cons, List.not_mem_nil, or_false] at z ⊢; omega)]
    have hp26 : ∀ i, i ∉ [0, 8, 10, 21, 24, 25] → I2 26 i = I 26 i := fun i hi => by rw [F2.2.1 i hi, fI1 26 (by decide)]
    have hJ2 : ∀ p, p ∉ [0, 24, 26, 30, 37, 45] → J2 p = J p := fun p hp => by
      rw [F2.2.2 p (by intro z; apply hp; simp only [List.mem_cons, List.not_mem_nil, or_false] at z ⊢; omega), fJ1 p (by intro z; apply hp; simp only [List.mem_cons, List.not_mem_nil, or_false] at z ⊢; omega)]
    have hfr : ∀ R', RW (I1 11 1) (I1 12) R' → RW (I2 26 8) (I2 34) R' → R'.length ≤ 121 → LJ cnt fld fty n h kd fa fb ly R' I2 J2 := fun R' q1 q2 q3 => by
      refine ⟨hT.same (fun p hp => hf p (by intro z; simp only [List.mem_cons, List.not_mem_nil, or_false] at hp z; omega)) (fun p hp => hJ2 p (by intro z; simp only [List.mem_cons, List.not_mem_nil, or_false] at hp z; omega)), ?_, q2, q3, hC.of fun p hp => hf p (by intro z; simp only [List.mem_cons, List.not_mem_nil, or_false] at hp z; omega), hM.of (hp26 14 (by decide)) (hp26 19 (by decide)) (hf 38 (by decide)) (hf 39 (by decide)) (hf 40 (by decide)) (hf 42 (by decide)), hw, ?_, ?_⟩
      · rw [F2.1 11 (by decide), F2.1 12 (by decide)]; exact q1
      · rw [F2.1 0 (by decide), y1, w1]
      · rw [F2.2.2 0 (by decide), y2, w2]
    have fin : ∃ R', LJ cnt fld fty n h kd fa fb ly R' I2 J2 := by
      by_cases q1 : Q.1 = 1
      · obtain ⟨a1, a2⟩ := y6 q1
        exact ⟨_, hfr _ a1 (w5 q1).2 a2⟩
      · obtain ⟨a1, a2⟩ := y5 q1
        obtain ⟨b1, b2⟩ := w6 q1
        exact ⟨R, hfr R (by rw [a1, a2]; exact hR1) (by rw [b1, b2, fI1 26 (by decide), fI1 34 (by decide)]; exact hR2) hlen⟩
    obtain ⟨R', hR'⟩ := fin
    have hcmp : ¬ Q.1 = 2 → (b = 0 ∧ J2 45 0 = 0) ∨ (b = 1 ∧ J2 45 0 = 1) := fun z => by
      rw [F2.2.2 45 (by decide)]
      by_cases q1 : Q.1 = 1
      · exact Or.inl ⟨(w5 q1).1, y4 q1⟩
      · have q0 : Q.1 = 0 := by omega
        exact Or.inr ⟨w4 q0, y3 q0⟩
    refine ⟨I2, J2, ⟨cnt, fld, fty, n, h, kd, fa, fb, ly, R', hR'⟩, fun {mc ms o σ'} rr => b145_870 h1 h2 r1 (b145_887 h1 h2 r2 (b145_905 r3 (b145_911 (fun _ => b145_918 (fun _ => b145_942 rr) (fun z => ?_)) (fun z => absurd rfl z))))⟩
    have hq2 : ¬ Q.1 = 2 := fun w => by rw [if_pos w] at z; exact z (by decide)
    rcases hcmp hq2 with ⟨c1, c2⟩ | ⟨c1, c2⟩
    · refine b145_923 (fun _ => b145_935 (b145_936 (fun _ => b145_942 rr) (fun z1 => absurd ?_ z1))) (fun z1 => absurd c1 z1)
      rw [c2]; exact lgcr _
    · refine b145_923 (fun z1 => absurd z1 (by rw [c1]; decide)) (fun _ => b145_931 (b145_936 (fun _ => b145_942 rr) (fun z1 => absurd ?_ z1)))
      rw [c2]; exact lgcr _
theorem L12 (hL : LI I J) : ∃ I' J', LI I' J' ∧ ∀ {mc ms : Nat} {o : mm_O} {σ' : mm_S}, mm_Run l X 145 (d + 31) 972 [.retAddr 0, .ref 0, .ref 26, .ref 45, .int (nI i), .null, .null, .null] [] (mm_Λ, I', J') mc ms o σ' → mm_Run l X 145 (d + 31) 945 [.retAddr 0, .ref 0, .ref 26, .ref 45, .int (nI i), .null, .null, .null] [] (mm_Λ, I, J) mc ms o σ' := by
  obtain ⟨cnt, fld, fty, n, h, kd, fa, fb, ly, R, hL⟩ := hL
  have e8 := hL.2.2.2.2.2.2.2.1
  exact ⟨mm_set I 26 0 0, J, ⟨cnt, fld, fty, n, h, kd, fa, fb, ly, R, hL.thrown fun _ _ => rfl⟩, fun rr => b145_945 c13 (b145_949 c143 (b145_953 (fun _ => rr) (fun z => absurd e8 z)))⟩
theorem L13 (hL : LI I J) : ∃ I' J', LI I' J' ∧ ∀ {mc ms : Nat} {o : mm_O} {σ' : mm_S}, mm_Run l X 145 (d + 31) 972 [.retAddr 0, .ref 0, .ref 26, .ref 45, .int (nI i), .null, .null, .null] [] (mm_Λ, I', J') mc ms o σ' → mm_Run l X 145 (d + 31) 958 [.retAddr 0, .ref 0, .ref 26, .ref 45, .int (nI i), .null, .null, .null] [] (mm_Λ, I, J) mc ms o σ' := by
  obtain ⟨cnt, fld, fty, n, h, kd, fa, fb, ly, R, hL⟩ := hL
  have e9 := hL.2.2.2.2.2.2.2.2
  exact ⟨mm_set I 26 0 0, J, ⟨cnt, fld, fty, n, h, kd, fa, fb, ly, R, hL.thrown fun _ _ => rfl⟩, fun rr => b145_958 c14 (b145_962 c144 (b145_966 (fun _ => rr) (fun z => absurd (by rw [e9]; exact lgcr _) z)))⟩
end LAWS
