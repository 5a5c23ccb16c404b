/-! ===== a small machine: memory in two banks, locals, operand stack; what it says of the real one ===== -/
abbrev mm_M : Type := (Nat → Nat → Int32) × (Nat → Nat → Int64)
/-- what lies at a place: (0, n, _) an int array of n; (1, n, _) a long array of n; (2, c, rs) an object of class c, rs its fields that are references -/
abbrev mm_K : Type := Nat × Nat × List Value
abbrev mm_S : Type := List mm_K × mm_M
/-- how a method ends: it answers, or throws a new object of the class of that name -/
abbrev mm_O : Type := Option Value ⊕ String
def mm_nth : List Value → Nat → Value
  | [], _ => .null
  | v :: _, 0 => v
  | _ :: L, n + 1 => mm_nth L n
def mm_kd : List mm_K → Nat → mm_K
  | [], _ => (9, 0, [])
  | v :: _, 0 => v
  | _ :: L, n + 1 => mm_kd L n
def mm_kill : Value → Value
  | .long _ => .null
  | .double _ => .null
  | v => v
def mm_st1 : Nat → Value → List Value → List Value
  | _, _, [] => []
  | 0, v, _ :: L => v :: L
  | n + 1, v, x :: L => (match n with | 0 => mm_kill x | _ + 1 => x) :: mm_st1 n v L
def mm_kill0 : List Value → List Value
  | [] => []
  | _ :: L => .null :: L
def mm_st2 : Nat → Value → List Value → List Value
  | _, _, [] => []
  | 0, v, _ :: L => v :: mm_kill0 L
  | n + 1, v, x :: L => (match n with | 0 => mm_kill x | _ + 1 => x) :: mm_st2 n v L
def mm_en : List Value → List Value
  | [] => []
  | .long x :: vs => .long x :: .null :: mm_en vs
  | .double x :: vs => .double x :: .null :: mm_en vs
  | v :: vs => v :: mm_en vs
def mm_pad : Nat → List Value → List Value
  | 0, _ => []
  | n + 1, [] => .null :: mm_pad n []
  | n + 1, v :: L => v :: mm_pad n L
def mm_set {α : Type} (f : Nat → Nat → α) (p i : Nat) (x : α) : Nat → Nat → α := fun q j => if q = p then (if j = i then x else f q j) else f q j
def mm_row {α : Type} (f : Nat → Nat → α) (p : Nat) (g : Nat → α) : Nat → Nat → α := fun q j => if q = p then g j else f q j
theorem mm_nth_some {L : List Value} {i : Nat} {v : Value} (h : mm_nth L i = v) (hv : v ≠ .null) : L[i]? = some v := by
  induction L generalizing i with
  | nil => exact absurd h.symm hv
  | cons x L ih =>
    cases i with
    | zero => simpa [mm_nth] using h
    | succ n => simpa using ih (i := n) h
theorem mm_kd_some {L : List mm_K} {i : Nat} {v : mm_K} (h : mm_kd L i = v) (hv : v.1 ≠ 9) : L[i]? = some v := by
  induction L generalizing i with
  | nil => exact absurd (by rw [← h]; rfl) hv
  | cons x L ih =>
    cases i with
    | zero => simpa [mm_kd] using h
    | succ n => simpa using ih (i := n) h
/-! values -/
def mm_V (φ ρ : List Nat) (v w : Value) : Prop := match v with
  | .ref p => ∃ a, ρ[p]? = some a ∧ w = .ref a
  | .retAddr j => ∃ a, φ[j]? = some a ∧ w = .ref a
  | .null => ∃ a, w = .ref a
  | v => w = v
def mm_Vs (φ ρ : List Nat) : List Value → List Value → Prop
  | [], [] => True
  | v :: vs, w :: ws => mm_V φ ρ v w ∧ mm_Vs φ ρ vs ws
  | _, _ => False
theorem mm_V.mono {φ ρ δ : List Nat} {v w : Value} (h : mm_V φ ρ v w) : mm_V φ (ρ ++ δ) v w := by
  cases v <;> try exact h
  obtain ⟨a, h1, h2⟩ := h
  exact ⟨a, by rw [List.getElem?_append_left (List.getElem?_eq_some_iff.mp h1).1]; exact h1, h2⟩
theorem mm_Vs.mono {φ ρ δ : List Nat} : ∀ {vs ws : List Value}, mm_Vs φ ρ vs ws → mm_Vs φ (ρ ++ δ) vs ws
  | [], [], _ => trivial
  | _ :: _, _ :: _, h => ⟨h.1.mono, mm_Vs.mono h.2⟩
theorem mm_V.cat {φ ρ : List Nat} {v w : Value} (h : mm_V φ ρ v w) : w.category = v.category := by
  cases v <;> first | (obtain ⟨a, -, rfl⟩ := h; rfl) | (obtain ⟨a, rfl⟩ := h; rfl) | (cases h; rfl)
theorem mm_Vs.app {φ ρ : List Nat} : ∀ {a b c d : List Value}, mm_Vs φ ρ a b → mm_Vs φ ρ c d → mm_Vs φ ρ (a ++ c) (b ++ d)
  | [], [], _, _, _, h => h
  | _ :: _, _ :: _, _, _, h1, h2 => ⟨h1.1, mm_Vs.app h1.2 h2⟩
theorem mm_Vs.split {φ ρ : List Nat} : ∀ {a c w : List Value}, mm_Vs φ ρ (a ++ c) w → ∃ b d, w = b ++ d ∧ mm_Vs φ ρ a b ∧ mm_Vs φ ρ c d
  | [], _, w, h => ⟨[], w, rfl, trivial, h⟩
  | _ :: _, _, [], h => absurd h (by intro q; exact q)
  | _ :: _, _, x :: w, h => by
    obtain ⟨b, d, e, h1, h2⟩ := mm_Vs.split h.2
    exact ⟨x :: b, d, by rw [e]; rfl, ⟨h.1, h1⟩, h2⟩
theorem mm_Vs.rev {φ ρ : List Nat} : ∀ {a b : List Value}, mm_Vs φ ρ a b → mm_Vs φ ρ a.reverse b.reverse
  | [], [], _ => trivial
  | x :: a, y :: b, h => by
    rw [List.reverse_cons, List.reverse_cons]
    exact (mm_Vs.rev h.2).app ⟨h.1, trivial⟩
theorem mm_Vs.len {φ ρ : List Nat} : ∀ {a b : List Value}, mm_Vs φ ρ a b → b.length = a.length
  | [], [], _ => rfl
  | _ :: _, _ :: _, h => by simp [mm_Vs.len h.2]
theorem mm_Vs.cats {φ ρ : List Nat} : ∀ {a b : List Value}, mm_Vs φ ρ a b → (b.map fun v => v.category).sum = (a.map fun v => v.category).sum
  | [], [], _ => rfl
  | _ :: _, _ :: _, h => by simp [mm_Vs.cats h.2, h.1.cat]
theorem mm_Vs.cons {φ ρ : List Nat} {v : Value} {S st : List Value} (h : mm_Vs φ ρ (v :: S) st) : ∃ w st', st = w :: st' ∧ mm_V φ ρ v w ∧ mm_Vs φ ρ S st' := by
  cases st with
  | nil => exact h.elim
  | cons w st' => exact ⟨w, st', rfl, h.1, h.2⟩
/-! locals -/
def mm_L (φ ρ : List Nat) (L : List Value) (ls : Array Slot) (nL : Nat) : Prop :=
  lv_has ls nL [] ∧ ∀ (i : Nat) (v : Value), L[i]? = some v → v ≠ .null → ∃ w, ls[i]? = some (.val w) ∧ mm_V φ ρ v w
theorem mm_L.mono {φ ρ δ : List Nat} {L : List Value} {ls : Array Slot} {nL : Nat} (h : mm_L φ ρ L ls nL) : mm_L φ (ρ ++ δ) L ls nL :=
  ⟨h.1, fun i v h1 h2 => by obtain ⟨w, e, hw⟩ := h.2 i v h1 h2; exact ⟨w, e, hw.mono⟩⟩
theorem mm_L.at {φ ρ : List Nat} {L : List Value} {ls : Array Slot} {nL i : Nat} {v : Value} (h : mm_L φ ρ L ls nL) (hv : mm_nth L i = v) (hn : v ≠ .null) : ∃ w, ls[i]? = some (.val w) ∧ mm_V φ ρ v w :=
  h.2 i v (mm_nth_some hv hn) hn
def mm_all (ls : Array Slot) : List (Nat × Value) := (List.range ls.size).filterMap fun (i : Nat) => match (ls[i]? : Option Slot) with
  | some (.val w) => some (i, w)
  | _ => none
theorem mm_all_mem {ls : Array Slot} {q : Nat × Value} : q ∈ mm_all ls ↔ ls[q.1]? = some (.val q.2) := by
  constructor
  · intro h
    obtain ⟨i, -, h⟩ := List.mem_filterMap.mp h
    split at h
    next w hw => cases h; exact hw
    next => cases h
  · intro h
    refine List.mem_filterMap.mpr ⟨q.1, List.mem_range.mpr (Array.getElem?_eq_some_iff.mp h).1, ?_⟩
    rw [h]
theorem mm_all_has {ls : Array Slot} {nL : Nat} (h : lv_has ls nL []) : lv_has ls nL (mm_all ls) := ⟨h.1, h.2.1, fun _ hq => mm_all_mem.mp hq⟩
theorem mm_kill_of {x u : Value} (h : mm_kill x = u) (hu : u ≠ .null) : x = u ∧ u.category = 1 := by
  cases x <;> simp only [mm_kill] at h <;> first | exact absurd h.symm hu | (subst h; exact ⟨rfl, rfl⟩)
theorem mm_st1_at : ∀ (L : List Value) (i : Nat) (v : Value) (j : Nat) (u : Value), (mm_st1 i v L)[j]? = some u → u ≠ .null →
    (j = i ∧ u = v) ∨ (j ≠ i ∧ L[j]? = some u ∧ (j + 1 = i → u.category = 1))
  | [], _, _, _, _, h, _ => by simp [mm_st1] at h
  | x :: L, 0, v, j, u, h, _ => by
    cases j with
    | zero => simp [mm_st1] at h; exact Or.inl ⟨rfl, h.symm⟩
    | succ j => simp [mm_st1] at h; exact Or.inr ⟨by omega, by simpa using h, by omega⟩
  | x :: L, n + 1, v, j, u, h, hu => by
    cases j with
    | zero =>
      cases n with
      | zero =>
        simp only [mm_st1, List.getElem?_cons_zero, Option.some.injEq] at h
        obtain ⟨h1, h2⟩ := mm_kill_of h hu
        exact Or.inr ⟨by omega, by simp [h1], fun _ => h2⟩
      | succ n =>
        simp only [mm_st1, List.getElem?_cons_zero, Option.some.injEq] at h
        exact Or.inr ⟨by omega, by simp [h], by omega⟩
    | succ j =>
      have h' : (mm_st1 n v L)[j]? = some u := by simpa [mm_st1] using h
      rcases mm_st1_at L n v j u h' hu with ⟨h1, h2⟩ | ⟨h1, h2, h3⟩
      · exact Or.inl ⟨by omega, h2⟩
      · exact Or.inr ⟨by omega, by simpa using h2, fun q => h3 (by omega)⟩
theorem mm_st2_at : ∀ (L : List Value) (i : Nat) (v : Value) (j : Nat) (u : Value), (mm_st2 i v L)[j]? = some u → u ≠ .null →
    (j = i ∧ u = v) ∨ (j ≠ i ∧ j ≠ i + 1 ∧ L[j]? = some u ∧ (j + 1 = i → u.category = 1))
  | [], _, _, _, _, h, _ => by simp [mm_st2] at h
  | x :: L, 0, v, j, u, h, hu => by
    cases j with
    | zero => simp [mm_st2] at h; exact Or.inl ⟨rfl, h.symm⟩
    | succ j =>
      have h' : (mm_kill0 L)[j]? = some u := by simpa [mm_st2] using h
      cases L with
      | nil => simp [mm_kill0] at h'
      | cons y L =>
        cases j with
        | zero => simp [mm_kill0] at h'; exact absurd h'.symm hu
        | succ j => exact Or.inr ⟨by omega, by omega, by simpa [mm_kill0] using h', by omega⟩
  | x :: L, n + 1, v, j, u, h, hu => by
    cases j with
    | zero =>
      cases n with
      | zero =>
        simp only [mm_st2, List.getElem?_cons_zero, Option.some.injEq] at h
        obtain ⟨h1, h2⟩ := mm_kill_of h hu
        exact Or.inr ⟨by omega, by omega, by simp [h1], fun _ => h2⟩
      | succ n =>
        simp only [mm_st2, List.getElem?_cons_zero, Option.some.injEq] at h
        exact Or.inr ⟨by omega, by omega, by simp [h], by omega⟩
    | succ j =>
      have h' : (mm_st2 n v L)[j]? = some u := by simpa [mm_st2] using h
      rcases mm_st2_at L n v j u h' hu with ⟨h1, h2⟩ | ⟨h1, h2, h3, h4⟩
      · exact Or.inl ⟨by omega, h2⟩
      · exact Or.inr ⟨by omega, by omega, by simpa using h3, fun q => h4 (by omega)⟩
theorem mm_L.st1 {φ ρ : List Nat} {L : List Value} {ls ls' : Array Slot} {nL i : Nat} {v w : Value} (h : mm_L φ ρ L ls nL) (hv : v ≠ .null → mm_V φ ρ v w)
    (h' : lv_has ls' nL ((i, w) :: (mm_all ls).filter (fun q => !(q.1 == i) && !(q.1 + 1 == i && q.2.category == 2)))) : mm_L φ ρ (mm_st1 i v L) ls' nL := by
  refine ⟨⟨h'.1, h'.2.1, fun _ q => by cases q⟩, fun j u hj hu => ?_⟩
  rcases mm_st1_at L i v j u hj hu with ⟨rfl, rfl⟩ | ⟨h1, h2, h3⟩
  · exact ⟨w, h'.2.2 _ List.mem_cons_self, hv hu⟩
  · obtain ⟨w2, e2, hw2⟩ := h.2 j u h2 hu
    refine ⟨w2, h'.2.2 (j, w2) (List.mem_cons_of_mem _ (List.mem_filter.mpr ⟨mm_all_mem.mpr e2, ?_⟩)), hw2⟩
    by_cases hji : j + 1 = i
    · have := h3 hji
      simp [h1, hw2.cat, this]
    · simp [h1, hji]
theorem mm_L.st2 {φ ρ : List Nat} {L : List Value} {ls ls' : Array Slot} {nL i : Nat} {v w : Value} (h : mm_L φ ρ L ls nL) (hv : mm_V φ ρ v w)
    (h' : lv_has ls' nL ((i, w) :: (mm_all ls).filter (fun q => !(q.1 == i) && (!(q.1 == i + 1) && !(q.1 + 1 == i && q.2.category == 2))))) : mm_L φ ρ (mm_st2 i v L) ls' nL := by
  refine ⟨⟨h'.1, h'.2.1, fun _ q => by cases q⟩, fun j u hj hu => ?_⟩
  rcases mm_st2_at L i v j u hj hu with ⟨rfl, rfl⟩ | ⟨h1, h0, h2, h3⟩
  · exact ⟨w, h'.2.2 _ List.mem_cons_self, hv⟩
  · obtain ⟨w2, e2, hw2⟩ := h.2 j u h2 hu
    refine ⟨w2, h'.2.2 (j, w2) (List.mem_cons_of_mem _ (List.mem_filter.mpr ⟨mm_all_mem.mpr e2, ?_⟩)), hw2⟩
    by_cases hji : j + 1 = i
    · have := h3 hji
      simp [h1, h0, hw2.cat, this]
    · simp [h1, h0, hji]
theorem mm_pad_at : ∀ (n : Nat) (L : List Value) (i : Nat) (v : Value), (mm_pad n L)[i]? = some v → v ≠ .null → L[i]? = some v
  | 0, _, _, _, h, _ => by simp [mm_pad] at h
  | n + 1, [], i, v, h, hv => by
    cases i with
    | zero => simp [mm_pad] at h; exact absurd h.symm hv
    | succ i => have := mm_pad_at n [] i v (by simpa [mm_pad] using h) hv; simp at this
  | n + 1, x :: L, i, v, h, hv => by
    cases i with
    | zero => simpa [mm_pad] using h
    | succ i => simpa using mm_pad_at n L i v (by simpa [mm_pad] using h) hv
theorem mm_en_at {φ ρ : List Nat} : ∀ (as avr : List Value) (b i : Nat) (v : Value), mm_Vs φ ρ as avr → (mm_en as)[i]? = some v → v ≠ .null → ∃ w, (b + i, w) ∈ lv_args b avr ∧ mm_V φ ρ v w
  | [], _, _, _, _, _, h, _ => by simp [mm_en] at h
  | x :: as, [], _, _, _, h, _, _ => h.elim
  | x :: as, y :: avr, b, i, v, hs, h, hv => by
    have hc := hs.1.cat
    by_cases h2 : x.category = 2
    · have e : mm_en (x :: as) = x :: .null :: mm_en as := by cases x <;> first | rfl | (simp [Value.category] at h2)
      rw [e] at h
      have hb : lv_args b (y :: avr) = (b, y) :: lv_args (b + 2) avr := by simp [lv_args, hc, h2]
      rw [hb]
      match i, h with
      | 0, h => simp at h; subst h; exact ⟨y, List.mem_cons_self, hs.1⟩
      | 1, h => simp at h; exact absurd h.symm hv
      | i + 2, h =>
        obtain ⟨w, h1, h3⟩ := mm_en_at as avr (b + 2) i v hs.2 (by simpa using h) hv
        exact ⟨w, List.mem_cons_of_mem _ (by rw [show b + (i + 2) = b + 2 + i by omega]; exact h1), h3⟩
    · have e : mm_en (x :: as) = x :: mm_en as := by cases x <;> first | rfl | (simp [Value.category] at h2)
      rw [e] at h
      have hb : lv_args b (y :: avr) = (b, y) :: lv_args (b + 1) avr := by simp [lv_args, hc, h2]
      rw [hb]
      match i, h with
      | 0, h => simp at h; subst h; exact ⟨y, List.mem_cons_self, hs.1⟩
      | i + 1, h =>
        obtain ⟨w, h1, h3⟩ := mm_en_at as avr (b + 1) i v hs.2 (by simpa using h) hv
        exact ⟨w, List.mem_cons_of_mem _ (by rw [show b + (i + 1) = b + 1 + i by omega]; exact h1), h3⟩
theorem mm_entry {φ ρ : List Nat} {as avr : List Value} {n : Nat} (hs : mm_Vs φ ρ as avr) (h : (lg_sl avr).length ≤ n) :
    mm_L φ ρ (mm_pad n (mm_en as)) ((lg_sl avr ++ List.replicate (n - (lg_sl avr).length) Slot.unset).toArray) n := by
  have h0 := lv_entry avr h
  refine ⟨⟨h0.1, h0.2.1, fun _ q => by cases q⟩, fun i v hi hv => ?_⟩
  obtain ⟨w, h1, h2⟩ := mm_en_at as avr 0 i v hs (mm_pad_at _ _ _ _ hi hv) hv
  exact ⟨w, by simpa using h0.2.2 _ h1, h2⟩
theorem mm_sl_len {φ ρ : List Nat} : ∀ {as avr : List Value}, mm_Vs φ ρ as avr → (lg_sl avr).length = (as.map fun v => v.category).sum
  | [], [], _ => rfl
  | x :: as, y :: avr, h => by
    have e : lg_sl (y :: avr) = (if y.category = 2 then [Slot.val y, .second] else [.val y]) ++ lg_sl avr := by simp [lg_sl]
    rw [e, List.length_append, mm_sl_len h.2, List.map_cons, List.sum_cons, ← h.1.cat]
    rcases lv_cat y with hy | hy <;> simp [hy]
