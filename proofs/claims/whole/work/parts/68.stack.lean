/-! ===== refine: the stack of the holes asked for (a path, and 0 for a new hole, c + 1 for the constructor c) ===== -/
def hdT : Nat → TR
  | 0 => hol
  | c + 1 => ndH c
def trs : List (Nat × Nat) → TR
  | [] => hol
  | x :: L => pt x.1 (hdT x.2) (stp 4 x.1) (trs L)
def tyS (fld fty : Nat → Nat) (t : Nat) (L : List (Nat × Nat)) (q : Nat) : Nat := (wk fld fty q (stp 4 q) (trs L) t).2.2
def GS (cnt fld fty : Nat → Nat) (most t : Nat) : List (Nat × Nat) → Prop
  | [] => True
  | x :: L => GS cnt fld fty most t L ∧ (∀ y, y ∈ L → 0 < y.2) ∧ isPb x.1 = true ∧ (wk fld fty x.1 (stp 4 x.1) (trs L) t).1 = 1 ∧ (wk fld fty x.1 (stp 4 x.1) (trs L) t).2.1 [] = 0 ∧ x.2 ≤ cnt (tyS fld fty t L x.1) ∧ (0 < ofl fld (tyS fld fty t L x.1) x.2 → stp 4 x.1 < most) ∧ ∃ (b : Bool) (T A N : Nat → Int32), HT b cnt fld fty T A N most (trs L) t 0
/-- the next constructor at the latest hole that has one -/
def adS (cnt fld fty : Nat → Nat) (most t : Nat) : List (Nat × Nat) → Option (List (Nat × Nat))
  | [] => none
  | x :: L => match nx fld (tyS fld fty t L x.1) (decide (stp 4 x.1 < most)) (cnt (tyS fld fty t L x.1) - x.2) x.2 with
    | some c => some ((x.1, c + 1) :: L)
    | none => adS cnt fld fty most t L
def adA (o : Option (List (Nat × Nat))) : Int32 := match o with
  | none => 0
  | some _ => 1
/-- what is evaluated, and for how many values it stands -/
def stE (fld fty kd fa fb : Nat → Nat) (most t top : Nat) (L : List (Nat × Nat)) : Nat := evE (tvF fld fty (trs L) t) (svF fld fty most (trs L) t) kd fa fb top
def stW (cnt fld fty : Nat → Nat) (most t : Nat) (L : List (Nat × Nat)) : Nat := min (pT cnt fld fty most (trs L) t) mny
/-- refine: 0 held, 1 refuted, 2 failed; evaluations left; passed; where it ended -/
def rfS (E W : List (Nat × Nat) → Nat) (ad : List (Nat × Nat) → Option (List (Nat × Nat))) : Nat → List (Nat × Nat) → Nat → Nat × Nat × Nat × List (Nat × Nat)
  | 0, L, P => (2, 0, P, L)
  | f + 1, L, P => if E L = 0 ∧ 0 < W L then (1, f, P, L) else
    match ad (if E L < 2 then L else (E L - 2, 0) :: L) with
    | none => (0, f, (if E L = 1 then min (P + W L) mny else P), L)
    | some L' => rfS E W ad f L' (if E L = 1 then min (P + W L) mny else P)
theorem rfS_1 {E W : List (Nat × Nat) → Nat} {ad : List (Nat × Nat) → Option (List (Nat × Nat))} {f P : Nat} {L : List (Nat × Nat)} (h : E L = 0 ∧ 0 < W L) : rfS E W ad (f + 1) L P = (1, f, P, L) := by rw [rfS, if_pos h]
theorem rfS_n {E W : List (Nat × Nat) → Nat} {ad : List (Nat × Nat) → Option (List (Nat × Nat))} {f P : Nat} {L : List (Nat × Nat)} (h : ¬ (E L = 0 ∧ 0 < W L)) (h2 : ad (if E L < 2 then L else (E L - 2, 0) :: L) = none) : rfS E W ad (f + 1) L P = (0, f, (if E L = 1 then min (P + W L) mny else P), L) := by rw [rfS, if_neg h, h2]
theorem rfS_s {E W : List (Nat × Nat) → Nat} {ad : List (Nat × Nat) → Option (List (Nat × Nat))} {f P : Nat} {L L' : List (Nat × Nat)} (h : ¬ (E L = 0 ∧ 0 < W L)) (h2 : ad (if E L < 2 then L else (E L - 2, 0) :: L) = some L') : rfS E W ad (f + 1) L P = rfS E W ad f L' (if E L = 1 then min (P + W L) mny else P) := by rw [rfS, if_neg h, h2]
theorem bnd_le {n : Nat} (h : n ≤ 4) : bnd n ≤ 121 := by
  match n, h with
  | 0, _ => decide
  | 1, _ => decide
  | 2, _ => decide
  | 3, _ => decide
  | 4, _ => decide
section STACK
variable {b : Bool} {cnt fld fty : Nat → Nat} {T A N : Nat → Int32} {most t q : Nat} {L L' : List (Nat × Nat)}
theorem HolP_hd : ∀ c : Nat, HolP (hdT c)
  | 0 => HolP_hol
  | c + 1 => HolP_ndH c
theorem HolP_trs : ∀ (L : List (Nat × Nat)), GS cnt fld fty most t L → HolP (trs L)
  | [], _ => HolP_hol
  | x :: L, h => HolP_pt (fld := fld) (fty := fty) (HolP_hd x.2) _ t _ (HolP_trs L h.1) h.2.2.2.1
theorem trs_new (h : GS cnt fld fty most t L) (h1 : (wk fld fty q (stp 4 q) (trs L) t).1 = 1) (h0 : (wk fld fty q (stp 4 q) (trs L) t).2.1 [] = 0) : pt q hol (stp 4 q) (trs L) = trs L := by
  have e := (HolP_wk (fld := fld) (fty := fty) (p := q) (stp 4 q) t (trs L) (HolP_trs L h)).is h0
  have := pt_self (fld := fld) (fty := fty) (p := q) (stp 4 q) t (trs L) h1
  rw [e] at this
  exact this
theorem adS_ok : ∀ (L : List (Nat × Nat)) {L' : List (Nat × Nat)}, GS cnt fld fty most t L → adS cnt fld fty most t L = some L' → GS cnt fld fty most t L' ∧ (∀ y, y ∈ L' → 0 < y.2) ∧ L'.length ≤ L.length
  | [], L', h, e => by simp [adS] at e
  | x :: L, L', h, e => by
    obtain ⟨g1, g2, g3, g4, g5, g6, g7, g8⟩ := h
    rw [adS] at e
    split at e
    · next c hc =>
      have := Option.some.inj e
      subst this
      obtain ⟨n1, n2, n3⟩ := nx_ok _ _ hc
      refine ⟨⟨g1, g2, g3, g4, g5, by show c + 1 ≤ cnt (tyS fld fty t L x.1); omega, fun z => ?_, g8⟩, fun y hy => ?_, Nat.le_refl _⟩
      · have z' : 0 < fld (4 * tyS fld fty t L x.1 + c) := z
        rcases n3 with w | w
        · simpa using w
        · omega
      · rcases List.mem_cons.mp hy with w | w
        · rw [w]; exact Nat.succ_pos c
        · exact g2 y w
    · next hc =>
      obtain ⟨a1, a2, a3⟩ := adS_ok L g1 e
      exact ⟨a1, a2, by rw [List.length_cons]; omega⟩
theorem nn_trs (hW : TW cnt fld fty) (ht : t < 6) : ∀ (L : List (Nat × Nat)), GS cnt fld fty most t L → (∀ y, y ∈ L → 0 < y.2) → nnT fld fty most (trs L) t = L.length
  | [], _, _ => by
    have : trs [] [] = 0 := rfl
    cases most <;> rw [nnT, if_pos this] <;> rfl
  | (q, 0) :: L, h, hp => absurd (hp (q, 0) (List.mem_cons_self ..)) (by simp)
  | (q, c + 1) :: L, h, hp => by
    obtain ⟨g1, g2, g3, g4, g5, g6, g7, b, T, A, N, g8⟩ := h
    obtain ⟨f1, f2, f3, f4, f5⟩ := pz_facts q (isPb_lt g3) g3
    have := nnT_pt hW (c := c) (stp 4 q) most t (trs L) ht f4 (by rw [f5]; exact g8) g4 g5
    rw [List.length_cons, ← nn_trs hW ht L g1 g2]
    exact this
theorem sm_lt {g : Nat → Nat} {B k : Nat} : ∀ (n j : Nat), (∀ i, j ≤ i → i < j + n → g i ≤ B) → j ≤ k → k < j + n → g k < B → sm g n j < n * B
  | 0, j, _, a, b, _ => by omega
  | n + 1, j, h, a, b, hk => by
    rw [sm, Nat.succ_mul]
    by_cases e : j = k
    · subst e
      have := sm_le (g := g) (B := B) n (j + 1) fun i a b => h i (by omega) (by omega)
      omega
    · have := h j (Nat.le_refl _) (by omega)
      have := sm_lt (g := g) (B := B) n (j + 1) (fun i a b => h i (by omega) (by omega)) (by omega) (by omega) hk
      omega
/-- a tree with a hole has fewer constructors than there is room for -/
theorem nnT_lt (hW : TW cnt fld fty) {p : Nat} : ∀ (s n t : Nat) (τ : TR), t < 6 → (∀ i, i < s → p / 4 ^ i % 4 ≠ 0) → HT b cnt fld fty T A N n τ t (p / 4 ^ s) → (wk fld fty p s τ t).1 = 1 → (wk fld fty p s τ t).2.1 [] = 0 → nnT fld fty n τ t < bnd n
  | 0, n, t, τ, ht, hd, h, hw, h0 => by
    have h0' : τ [] = 0 := h0
    cases n with
    | zero => rw [nnT, if_pos h0']; decide
    | succ n => rw [nnT, if_pos h0', bnd]; omega
  | s + 1, n, t, τ, ht, hd, h, hw, h0 => by
    obtain ⟨g0, g1, e⟩ := wk_succ hw
    rw [e] at hw h0
    have hds := hd s (by omega)
    obtain ⟨-, -, -, h4, h5⟩ := h.u hW ht
    obtain ⟨k0, k6, kH⟩ := h5 (p / 4 ^ s % 4 - 1) (by omega)
    rw [show 4 * (p / 4 ^ (s + 1)) + (p / 4 ^ s % 4 - 1) + 1 = p / 4 ^ s by have := p4 p s; omega] at kH
    obtain ⟨n', rfl⟩ : ∃ n', n = n' + 1 := ⟨n - 1, by omega⟩
    have ih := nnT_lt hW s n' _ _ k6 (fun i hi => hd i (by omega)) kH hw h0
    rw [nnT, if_neg g0, bnd]
    have := sm_lt (g := fun k => nnT fld fty n' (tkid τ k) (kty fty τ t k)) (B := bnd n') (k := p / 4 ^ s % 4 - 1) (fl fld τ t) 0 (fun i _ hi => nnT_le hW n' _ _ _ (h5 i (by omega)).2.1 (h5 i (by omega)).2.2) (Nat.zero_le _) (by omega) ih
    have : fl fld τ t * bnd n' ≤ 3 * bnd n' := Nat.mul_le_mul_right _ h4
    omega
/-- a hole asked for -/
theorem GS_push (hW : TW cnt fld fty) (ht : t < 6) (hm : most ≤ 4) (hG : GS cnt fld fty most t L) (hp : ∀ y, y ∈ L → 0 < y.2) (hH : HT b cnt fld fty T A N most (trs L) t 0) {τ' : TR} {t' : Nat} (hg : got fld fty (trs L) t q τ' t') (h0 : τ' [] = 0) : GS cnt fld fty most t ((q, 0) :: L) ∧ trs ((q, 0) :: L) = trs L ∧ L.length < 121 := by
  obtain ⟨g1, g2⟩ := hg
  have w1 : (wk fld fty q (stp 4 q) (trs L) t).1 = 1 := by rw [g2]
  have w0 : (wk fld fty q (stp 4 q) (trs L) t).2.1 [] = 0 := by rw [g2]; exact h0
  obtain ⟨f1, f2, f3, f4, f5⟩ := pz_facts q (isPb_lt g1) g1
  refine ⟨⟨hG, hp, g1, w1, w0, Nat.zero_le _, fun z => absurd z (by simp [ofl]), b, T, A, N, hH⟩, trs_new hG w1 w0, ?_⟩
  have := nnT_lt hW (stp 4 q) most t (trs L) ht f4 (by rw [f5]; exact hH) w1 w0
  rw [nn_trs hW ht L hG hp] at this
  exact Nat.lt_of_lt_of_le this (bnd_le hm)
theorem cod_hd (c : Nat) : cod (hdT c) = if c = 0 then -2 else nI (c - 1) := by
  cases c with
  | zero => rfl
  | succ c => rw [if_neg (by omega)]; rfl
theorem nxT_hd (c : Nat) : nxT (some c) = hdT (c + 1) := rfl
/-- what is at the latest hole -/
theorem trs_top {x : Nat × Nat} (hW : TW cnt fld fty) (ht : t < 6) (hG : GS cnt fld fty most t (x :: L)) (hH : HT b cnt fld fty T A N most (trs (x :: L)) t 0) : wk fld fty x.1 (stp 4 x.1) (trs (x :: L)) t = (1, hdT x.2, tyS fld fty t L x.1) ∧ stp 4 x.1 ≤ most ∧ tyS fld fty t L x.1 < 6 ∧ HT b cnt fld fty T A N (most - stp 4 x.1) (hdT x.2) (tyS fld fty t L x.1) x.1 := by
  have e : wk fld fty x.1 (stp 4 x.1) (trs (x :: L)) t = (1, hdT x.2, tyS fld fty t L x.1) := wk_pt _ _ _ hG.2.2.2.1
  obtain ⟨-, c2⟩ := wk_code hW hG.2.2.1 ht hH
  rw [e] at c2
  exact ⟨e, c2 rfl⟩
/-- another thing put there -/
theorem trs_put {T' A' N' : Nat → Int32} {x : Nat × Nat} {c : Nat} (hW : TW cnt fld fty) (ht : t < 6) (hG : GS cnt fld fty most t (x :: L)) (hH : HT b cnt fld fty T A N most (trs (x :: L)) t 0) (ho : ∀ q, ¬ bel x.1 q → T' q = T q ∧ A' q = A q ∧ N' q = N q) (hn : HT b cnt fld fty T' A' N' (most - stp 4 x.1) (hdT c) (tyS fld fty t L x.1) x.1) : HT b cnt fld fty T' A' N' most (trs ((x.1, c) :: L)) t 0 := by
  obtain ⟨f1, f2, f3, f4, f5⟩ := pz_facts x.1 (isPb_lt hG.2.2.1) hG.2.2.1
  obtain ⟨e, -⟩ := trs_top hW ht hG hH
  have h := HT.pt (b := b) (p := x.1) (σ := hdT c) hW ho (stp 4 x.1) most t (trs (x :: L)) ht f4 (by rw [f5]; exact hH) (by rw [e]) (by rw [e]; exact hn)
  rw [f5] at h
  have e2 : pt x.1 (hdT c) (stp 4 x.1) (trs (x :: L)) = trs ((x.1, c) :: L) := pt_pt _ _
  rw [e2] at h
  exact h
end STACK
/-- the class's stack, the reference's -/
def SKc (R : Nat → Int32) : List (Nat × Nat) → Prop
  | [] => True
  | x :: L => R L.length = nI x.1 ∧ SKc R L
def SKm (R S : Nat → Int32) : List (Nat × Nat) → Prop
  | [] => True
  | x :: L => R L.length = nI x.1 ∧ S L.length = kx x.2 ∧ SKm R S L
theorem SKc.of {R R' : Nat → Int32} : ∀ (L : List (Nat × Nat)), SKc R L → (∀ j, j < L.length → R' j = R j) → SKc R' L
  | [], _, _ => trivial
  | x :: L, h, e => ⟨by rw [e _ (by rw [List.length_cons]; omega)]; exact h.1, SKc.of L h.2 fun j hj => e j (by rw [List.length_cons]; omega)⟩
theorem SKm.of {R R' S S' : Nat → Int32} : ∀ (L : List (Nat × Nat)), SKm R S L → (∀ j, j < L.length → R' j = R j ∧ S' j = S j) → SKm R' S' L
  | [], _, _ => trivial
  | x :: L, h, e => ⟨by rw [(e _ (by rw [List.length_cons]; omega)).1]; exact h.1, by rw [(e _ (by rw [List.length_cons]; omega)).2]; exact h.2.1, SKm.of L h.2.2 fun j hj => e j (by rw [List.length_cons]; omega)⟩
theorem SKc.ad {cnt fld fty : Nat → Nat} {most t : Nat} {R : Nat → Int32} : ∀ (L : List (Nat × Nat)) {L' : List (Nat × Nat)}, SKc R L → adS cnt fld fty most t L = some L' → SKc R L'
  | [], L', h, e => by simp [adS] at e
  | x :: L, L', h, e => by
    rw [adS] at e
    split at e
    · have := Option.some.inj e
      subst this
      exact ⟨h.1, h.2⟩
    · exact SKc.ad L h.2 e
