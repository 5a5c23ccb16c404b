/-! ===== a tree laid out in a row ===== -/
def cod (τ : TR) : Int32 := match τ [] with
  | 0 => -2
  | c + 1 => nI c
def fl (fld : Nat → Nat) (τ : TR) (t : Nat) : Nat := match τ [] with
  | 0 => 0
  | c + 1 => fld (4 * t + c)
def kty (fty : Nat → Nat) (τ : TR) (t k : Nat) : Nat := fty (3 * (4 * t + (τ [] - 1)) + k)
def cat (g : Nat → List Int32) : Nat → Nat → List Int32
  | 0, _ => []
  | n + 1, k => g k ++ cat g n (k + 1)
def preT (fld fty : Nat → Nat) : Nat → TR → Nat → List Int32
  | 0, τ, _ => [cod τ]
  | n + 1, τ, t => cod τ :: cat (fun k => preT fld fty n (tkid τ k) (kty fty τ t k)) (fl fld τ t) 0
def bnd : Nat → Nat
  | 0 => 1
  | n + 1 => 1 + 3 * bnd n
def RW (n : Int32) (f : Nat → Int32) (L : List Int32) : Prop := n = nI L.length ∧ ∀ j x, L[j]? = some x → f j = x
theorem RW.add {n n' : Int32} {f f' : Nat → Int32} {L : List Int32} {x : Int32} (h : RW n f L) (hn : n' = nI (L.length + 1)) (h1 : f' L.length = x) (h2 : ∀ j, j < L.length → f' j = f j) : RW n' f' (L ++ [x]) := by
  refine ⟨by rw [hn, List.length_append, List.length_singleton], fun j y hy => ?_⟩
  by_cases hj : j < L.length
  · rw [List.getElem?_append_left hj] at hy
    rw [h2 j hj]; exact h.2 j y hy
  · rw [List.getElem?_append_right (by omega)] at hy
    have : j = L.length := by
      by_cases e : j - L.length = 0
      · omega
      · obtain ⟨q, hq⟩ : ∃ q, j - L.length = q + 1 := ⟨j - L.length - 1, by omega⟩
        rw [hq] at hy
        simp at hy
    subst this
    rw [Nat.sub_self] at hy
    simp at hy
    rw [h1, hy]
theorem cat_len {g : Nat → List Int32} {B : Nat} : ∀ (n k : Nat), (∀ i, k ≤ i → i < k + n → (g i).length ≤ B) → (cat g n k).length ≤ n * B
  | 0, k, _ => Nat.zero_le _
  | n + 1, k, h => by
    rw [cat, List.length_append, Nat.succ_mul]
    have := h k (Nat.le_refl _) (by omega)
    have := cat_len (g := g) (B := B) n (k + 1) fun i a b => h i (by omega) (by omega)
    omega
section ROW
variable {l : Launch} {X : Nat × (Nat → Int32)} {d : Nat} {I I' I'' : Nat → Nat → Int32} {J J' J'' : Nat → Nat → Int64} {mc ms : Nat} {cnt fld fty : Nat → Nat} {p t c n : Nat} {b : Bool} {T A N : Nat → Int32} {τ : TR} {L : List Int32}
theorem HT.u (hW : TW cnt fld fty) (ht : t < 6) (h : HT b cnt fld fty T A N n τ t p) : T p = nI t ∧ A p = cod τ ∧ (b = true → N p = nI (fl fld τ t)) ∧ fl fld τ t ≤ 3 ∧ ∀ k, k < fl fld τ t → 0 < n ∧ kty fty τ t k < 6 ∧ HT b cnt fld fty T A N (n - 1) (tkid τ k) (kty fty τ t k) (4 * p + k + 1) := by
  obtain ⟨h1, h2, h3⟩ := h.hd
  unfold cod fl kty
  rcases hτ : τ [] with _ | c
  · exact ⟨h1, (h2 hτ).1, fun q => (h2 hτ).2 q, by simp, fun k hk => by simp at hk⟩
  · obtain ⟨a1, a2, a3⟩ := h3 c hτ
    have hf := hW.form ht a1
    exact ⟨h1, a2, a3, hW.2.1 _ hf, fun k hk => ⟨(h.kid hτ hk).1, hW.2.2 _ hf k hk, (h.kid hτ hk).2⟩⟩
theorem preT_len (hW : TW cnt fld fty) : ∀ (n : Nat) (τ : TR) (t p : Nat), t < 6 → HT b cnt fld fty T A N n τ t p → (preT fld fty n τ t).length ≤ bnd n
  | 0, τ, t, p, ht, h => Nat.le_refl _
  | n + 1, τ, t, p, ht, h => by
    obtain ⟨-, -, -, h3, hk⟩ := h.u hW ht
    rw [preT, List.length_cons, bnd]
    have := cat_len (g := fun k => preT fld fty n (tkid τ k) (kty fty τ t k)) (B := bnd n) (fl fld τ t) 0 fun i _ hi => by
      obtain ⟨-, q1, q2⟩ := hk i (by omega)
      exact preT_len hW n _ _ _ q1 q2
    have : fl fld τ t * bnd n ≤ 3 * bnd n := Nat.mul_le_mul_right _ h3
    omega
/-- the class's row -/
theorem c50 {x : Int32} (hR : RW (I 11 1) (I 12) L) (hL : L.length < 121) : ∃ I', mm_Call l X 50 d [.ref 11, .int x] (mm_Λ, I, J) mc ms (.inl none) (mm_Λ, I', J) ∧ RW (I' 11 1) (I' 12) (L ++ [x]) ∧ ∀ r, r ≠ 11 → r ≠ 12 → I' r = I r := by
  refine ⟨mm_set (mm_set I 12 L.length x) 11 1 (nI (L.length + 1)), b50_0 (fun q => absurd q ?_) (fun _ => b50_9 (by rw [hR.1]; exact ix_in hL (by omega)) ?_), hR.add (by simp [mm_set]) (by simp [mm_set]) (fun j hj => by simp [mm_set]; omega), fun r a b => by rw [mm_set_ne a, mm_set_ne b]⟩
  · rw [hR.1]
    exact nI_ge (b := 121) hL (by omega)
  · rw [hR.1, ix_cl (by omega), nI_1]
    exact b50_29
theorem c49_kids {h w : Nat} {g : Nat → List Int32} (hp : p < 256) (m0 : Nat) (h3 : m0 ≤ 3) (hn : I 16 p = nI m0)
    (hIH : ∀ k (I1 : Nat → Nat → Int32) (L : List Int32), k < m0 → (∀ r, r ≠ 11 → r ≠ 12 → I1 r = I r) → RW (I1 11 1) (I1 12) L → L.length + (g k).length ≤ 121 → ∃ I', mm_Call l X 49 w [.ref 13, .ref 11, .int (nI (4 * p + k + 1)), .int (nI h + 1)] (mm_Λ, I1, J) 0 0 (.inl none) (mm_Λ, I', J) ∧ RW (I' 11 1) (I' 12) (L ++ g k) ∧ ∀ r, r ≠ 11 → r ≠ 12 → I' r = I1 r) (hw : 0 < w) :
    ∀ (m k : Nat) (I1 : Nat → Nat → Int32) (L : List Int32), k + m = m0 → (∀ r, r ≠ 11 → r ≠ 12 → I1 r = I r) → RW (I1 11 1) (I1 12) L → L.length + (cat g m k).length ≤ 121 →
    ∃ I', mm_Run l X 49 (w + 1) 18 [.ref 13, .ref 11, .int (nI p), .int (nI h), .int (nI k)] [] (mm_Λ, I1, J) mc ms (.inl none) (mm_Λ, I', J) ∧ RW (I' 11 1) (I' 12) (L ++ cat g m k) ∧ ∀ r, r ≠ 11 → r ≠ 12 → I' r = I1 r
  | 0, k, I1, L, hk, hI, hR, hL => by
    refine ⟨I1, b49_18 (ix_in hp (by omega)) (fun _ => b49_49) (fun q => absurd ?_ q), by rw [cat, List.append_nil]; exact hR, fun _ _ _ => rfl⟩
    rw [ix_cl (by omega), hI 16 (by decide) (by decide), hn]
    exact nI_le (by omega) (by omega)
  | m + 1, k, I1, L, hk, hI, hR, hL => by
    rw [cat, List.length_append] at hL
    obtain ⟨I2, r2, hR2, f2⟩ := hIH k I1 L (by omega) hI hR (by omega)
    obtain ⟨I', r, hR', f⟩ := c49_kids hp m0 h3 hn hIH hw m (k + 1) I2 (L ++ g k) (by omega) (fun r a b => by rw [f2 r a b, hI r a b]) hR2 (by rw [List.length_append]; omega)
    refine ⟨I', b49_18 (ix_in hp (by omega)) (fun q => absurd q ?_) (fun _ => b49_29 (c45 p k) (b49_37 r2 (b49_43 ?_))), by rw [cat, ← List.append_assoc]; exact hR', fun r a b => by rw [f r a b, f2 r a b]⟩
    · rw [ix_cl (by omega), hI 16 (by decide) (by decide), hn]
      exact nI_ge (by omega) (by omega)
    · rw [nI_1]; exact r
/-- writePart -/
theorem c49 (hW : TW cnt fld fty) : ∀ (n h p t : Nat) (τ : TR) (L : List Int32) (I : Nat → Nat → Int32), n + h ≤ 4 → p < 4 ^ h → t < 6 → HT true cnt fld fty (I 14) (I 15) (I 16) n τ t p → RW (I 11 1) (I 12) L → L.length + (preT fld fty n τ t).length ≤ 121 →
    ∃ I', mm_Call l X 49 (d + n + 2) [.ref 13, .ref 11, .int (nI p), .int (nI h)] (mm_Λ, I, J) mc ms (.inl none) (mm_Λ, I', J) ∧ RW (I' 11 1) (I' 12) (L ++ preT fld fty n τ t) ∧ ∀ r, r ≠ 11 → r ≠ 12 → I' r = I r := by
  intro n
  induction n generalizing mc ms with
  | zero =>
    intro h p t τ L I hnh hp ht hH hR hL
    have hp256 : p < 256 := Nat.lt_of_lt_of_le hp (Nat.pow_le_pow_right (n := 4) (by decide) (show h ≤ 4 by omega))
    obtain ⟨h1, h2, h3, h4, h5⟩ := hH.u hW ht
    have h0 : fl fld τ t = 0 := Nat.eq_zero_of_not_pos fun q => absurd (h5 0 q).1 (by omega)
    rw [preT, List.length_singleton] at hL
    obtain ⟨I', r, hR', f⟩ := @c50 l X (d + 1) I J 0 0 L (cod τ) hR (by omega)
    refine ⟨I', b49_0 (ix_in hp256 (by omega)) (by rw [ix_cl (by omega), h2]; exact r) (b49_10 (fun _ => b49_49) (fun _ => b49_15 (b49_18 (ix_in hp256 (by omega)) (fun _ => b49_49) (fun q => absurd ?_ q)))), hR', f⟩
    rw [ix_cl (by omega), f 16 (by decide) (by decide), h3 rfl, h0]
    decide
  | succ n ih =>
    intro h p t τ L I hnh hp ht hH hR hL
    have hp64 : p < 64 := Nat.lt_of_lt_of_le hp (Nat.pow_le_pow_right (n := 4) (by decide) (show h ≤ 3 by omega))
    obtain ⟨h1, h2, h3, h4, h5⟩ := hH.u hW ht
    rw [preT, List.length_cons] at hL
    obtain ⟨I1, r1, hR1, f1⟩ := @c50 l X (d + n + 2) I J 0 0 L (cod τ) hR (by omega)
    obtain ⟨I', r, hR', f⟩ := @c49_kids l X I1 J mc ms p h (d + n + 2) (fun k => preT fld fty n (tkid τ k) (kty fty τ t k)) (by omega) (fl fld τ t) h4 (by rw [f1 16 (by decide) (by decide)]; exact h3 rfl)
      (fun k I2 L2 hk hI2 hR2 hL2 => by
        obtain ⟨-, k6, kH⟩ := h5 k hk
        rw [nI_1]
        refine ih (h + 1) (4 * p + k + 1) (kty fty τ t k) (tkid τ k) L2 I2 (by omega) (by rw [Nat.pow_succ]; omega) k6 ?_ hR2 hL2
        rw [hI2 14 (by decide) (by decide), hI2 15 (by decide) (by decide), hI2 16 (by decide) (by decide), f1 14 (by decide) (by decide), f1 15 (by decide) (by decide), f1 16 (by decide) (by decide)]
        exact kH) (by omega) (fl fld τ t) 0 I1 (L ++ [cod τ]) (by omega) (fun _ _ _ => rfl) hR1 (by rw [List.length_append, List.length_singleton]; omega)
    rw [nI_0] at r
    refine ⟨I', b49_0 (ix_in (by omega) (by omega)) (by rw [ix_cl (by omega), h2]; exact r1) (b49_10 (fun q => absurd q (nI_ge (b := 4) (by omega) (by omega))) (fun _ => b49_15 r)), ?_, fun q a b => by rw [f q a b, f1 q a b]⟩
    rw [preT]
    rw [List.append_assoc] at hR'
    exact hR'
/-- writeTo -/
theorem c47 (hW : TW cnt fld fty) (hn : n ≤ 4) (ht : t < 6) (hH : HT true cnt fld fty (I 14) (I 15) (I 16) n τ t 0) :
    ∃ I', mm_Call l X 47 (d + n + 3) [.ref 13, .ref 11] (mm_Λ, I, J) mc ms (.inl none) (mm_Λ, I', J) ∧ RW (I' 11 1) (I' 12) (preT fld fty n τ t) ∧ ∀ r, r ≠ 11 → r ≠ 12 → I' r = I r := by
  have hb : bnd n ≤ 121 := by
    match n, hn with
    | 0, _ => decide
    | 1, _ => decide
    | 2, _ => decide
    | 3, _ => decide
    | 4, _ => decide
  have hl := preT_len hW n τ t 0 ht hH
  have hH' : HT true cnt fld fty ((mm_set I 11 1 0) 14) ((mm_set I 11 1 0) 15) ((mm_set I 11 1 0) 16) n τ t 0 := by
    rw [mm_set_ne (by decide), mm_set_ne (by decide), mm_set_ne (by decide)]; exact hH
  obtain ⟨I', r, hR, f⟩ := @c49 l X d J 0 0 cnt fld fty hW n 0 0 t τ [] (mm_set I 11 1 0) (by omega) (by decide) ht hH' ⟨by simp [mm_set]; exact nI_0.symm, fun j x hx => by simp at hx⟩ (by simp; omega)
  rw [nI_0] at r
  exact ⟨I', b47_0 c48 (b47_4 r b47_11), hR, fun q a b => by rw [f q a b, mm_set_ne a]⟩
/-! the reference's row -/
/-- below s the reference's stack is as it was; but for R and Q, so is the rest -/
def SF (R Q : List Nat) (s : Nat) (I I' : Nat → Nat → Int32) (J J' : Nat → Nat → Int64) : Prop :=
  (∀ i, i < s → I' 35 i = I 35 i ∧ I' 36 i = I 36 i ∧ J' 37 i = J 37 i) ∧ (∀ r, r ∉ 26 :: 35 :: 36 :: R → I' r = I r) ∧ (∀ i, i ∉ 10 :: Q → I' 26 i = I 26 i) ∧ ∀ r, r ≠ 37 → J' r = J r
theorem SF.refl {R Q : List Nat} {s : Nat} : SF R Q s I I J J := ⟨fun _ _ => ⟨rfl, rfl, rfl⟩, fun _ _ => rfl, fun _ _ => rfl, fun _ _ => rfl⟩
theorem SF.trans {R Q : List Nat} {s s' : Nat} (h : SF R Q s I I' J J') (h' : SF R Q s' I' I'' J' J'') (hs : s ≤ s') : SF R Q s I I'' J J'' := by
  refine ⟨fun i hi => ?_, fun r hr => by rw [h'.2.1 r hr, h.2.1 r hr], fun i hi => by rw [h'.2.2.1 i hi, h.2.2.1 i hi], fun r hr => by rw [h'.2.2.2 r hr, h.2.2.2 r hr]⟩
  obtain ⟨a, b, c⟩ := h.1 i hi
  obtain ⟨a', b', c'⟩ := h'.1 i (by omega)
  exact ⟨by rw [a', a], by rw [b', b], by rw [c', c]⟩
theorem SF.trans_le {R Q : List Nat} {s s' : Nat} (h : SF R Q s' I I' J J') (h' : SF R Q s I' I'' J' J'') (hs : s ≤ s') : SF R Q s I I'' J J'' :=
  SF.trans ⟨fun i hi => h.1 i (by omega), h.2⟩ h' (Nat.le_refl _)
theorem SF.mono {R Q R' Q' : List Nat} {s : Nat} (h : SF R Q s I I' J J') (hR : ∀ r, r ∈ R → r ∈ R') (hQ : ∀ r, r ∈ Q → r ∈ Q') : SF R' Q' s I I' J J' := by
  refine ⟨h.1, fun r hr => h.2.1 r fun q => hr ?_, fun i hi => h.2.2.1 i fun q => hi ?_, h.2.2.2⟩
  · simp only [List.mem_cons] at q ⊢
    rcases q with q | q | q | q
    · exact Or.inl q
    · exact Or.inr (Or.inl q)
    · exact Or.inr (Or.inr (Or.inl q))
    · exact Or.inr (Or.inr (Or.inr (hR r q)))
  · simp only [List.mem_cons] at q ⊢
    rcases q with q | q
    · exact Or.inl q
    · exact Or.inr (hQ i q)
/-- push -/
theorem c119 {s : Nat} {x1 x2 : Int32} {x3 : Int64} (hs : s < 512) (h10 : I 26 10 = nI s) : mm_Call l X 119 d [.ref 26, .int x1, .int x2, .long x3] (mm_Λ, I, J) mc ms (.inl none) (mm_Λ, mm_set (mm_set (mm_set I 35 s x1) 36 s x2) 26 10 (nI (s + 1)), mm_set J 37 s x3) := by
  have hi : vp_in (I 26 10) 512 := by rw [h10]; exact ix_in hs (by omega)
  have r := @b119_0 l X d I J x1 x2 x3 mc ms hi hi hi
  rw [h10, ix_cl (by omega), nI_1] at r
  exact r
theorem SF.push {s : Nat} {x1 x2 : Int32} {x3 : Int64} : SF [] [] s I (mm_set (mm_set (mm_set I 35 s x1) 36 s x2) 26 10 (nI (s + 1))) J (mm_set J 37 s x3) := by
  refine ⟨fun i hi => ?_, fun r hr => ?_, fun i hi => ?_, fun r hr => mm_set_ne hr⟩
  · have : i ≠ s := by omega
    simp [mm_set, this]
  · simp only [List.mem_cons, List.not_mem_nil, or_false, not_or] at hr
    rw [mm_set_ne hr.1, mm_set_ne hr.2.2, mm_set_ne hr.2.1]
  · simp only [List.mem_cons, List.not_mem_nil, or_false] at hi
    simp [mm_set, hi]
end ROW
