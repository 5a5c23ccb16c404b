/-! ===== what a join forgets; the words of a throw ===== -/
def mm_lf : List Value → List Value → Prop
  | [], [] => True
  | .null :: a, _ :: b => mm_lf a b
  | x :: a, y :: b => x = y ∧ mm_lf a b
  | _, _ => False
theorem mm_lf_at : ∀ (L2 L : List Value) (i : Nat) (v : Value), mm_lf L2 L → L2[i]? = some v → v ≠ .null → L[i]? = some v
  | [], [], _, _, _, h, _ => by simp at h
  | [], _ :: _, _, _, h, _, _ => h.elim
  | x :: a, [], _, _, h, _, _ => by cases x <;> exact h.elim
  | x :: a, y :: b, i, v, h, hi, hv => by
    have key : (x = .null ∨ x = y) ∧ mm_lf a b := by
      cases x <;> first | exact ⟨Or.inl rfl, h⟩ | exact ⟨Or.inr h.1, h.2⟩
    cases i with
    | zero =>
      simp at hi
      subst hi
      rcases key.1 with q | q
      · exact absurd q hv
      · simp [q]
    | succ i => simpa using mm_lf_at a b i v key.2 (by simpa using hi) hv
theorem mm_forget {l : Launch} {X : Nat × (Nat → Int32)} {k d pc : Nat} {L L2 S : List Value} {σ σ' : mm_S} {mc ms : Nat} {o : mm_O} (hr : mm_Run l X k d pc L2 S σ mc ms o σ') (h : mm_lf L2 L) : mm_Run l X k d pc L S σ mc ms o σ' := by
  intro p e R s m args below meth c D A cI cL φ hc H locs cells slots ρ ws ls st hW hP hD hS hL hV h1 h2
  exact hr hc hW hP hD hS ⟨hL.1, fun i v hi hv => hL.2 i v (mm_lf_at L2 L i v h hi hv) hv⟩ hV h1 h2
def thn : List String := ["java/lang/RuntimeException", "java/lang/Exception"]
def thP (w : Cond) : Prop := w ∈ mm_tb ∨ w = .isRef (.static Bundle.tN "UNASSIGNED_STACK" Bundle.steD) ∨ w = .isRef (.static Bundle.tN "SUPPRESSED_SENTINEL" Bundle.listD) ∨ w = .laysStatic Bundle.tN "UNASSIGNED_STACK" Bundle.steD ∨ w = .laysStatic Bundle.tN "SUPPRESSED_SENTINEL" Bundle.listD
def thb (w : Cond) : Bool := decide (w ∈ tables_1) && mm_gw w || decide (w ∈ k2_sels lw_privs) && mm_gw w || decide (w = .isRef (.static Bundle.tN "UNASSIGNED_STACK" Bundle.steD)) || decide (w = .isRef (.static Bundle.tN "SUPPRESSED_SENTINEL" Bundle.listD)) || decide (w = .laysStatic Bundle.tN "UNASSIGNED_STACK" Bundle.steD) || decide (w = .laysStatic Bundle.tN "SUPPRESSED_SENTINEL" Bundle.listD)
theorem thb_ok {w : Cond} (h : thb w = true) : thP w := by
  simp only [thb, Bool.or_eq_true, Bool.and_eq_true, decide_eq_true_eq] at h
  rcases h with ((((h | h) | h) | h) | h) | h
  · exact Or.inl (List.mem_filter.mpr ⟨List.mem_append_right _ h.1, h.2⟩)
  · exact Or.inl (List.mem_filter.mpr ⟨List.mem_append_left _ h.1, h.2⟩)
  · exact Or.inr (Or.inl h)
  · exact Or.inr (Or.inr (Or.inl h))
  · exact Or.inr (Or.inr (Or.inr (Or.inl h)))
  · exact Or.inr (Or.inr (Or.inr (Or.inr h)))
def thB (X : String) : List Cond := [.instantiable X 6, .castable X X, .selects X Bundle.tFill0 Bundle.tFill0, .selects X Bundle.tFill Bundle.tFill,
   .lays X Bundle.tN "cause" "Ljava/lang/Throwable;", .lays X Bundle.tN "stackTrace" Bundle.steD, .lays X Bundle.tN "suppressedExceptions" Bundle.listD, .lays X Bundle.tN "detailMessage" "Ljava/lang/String;",
   .isRef (.static Bundle.tN "UNASSIGNED_STACK" Bundle.steD), .isRef (.static Bundle.tN "SUPPRESSED_SENTINEL" Bundle.listD),
   .fieldLink Bundle.tN 198 Bundle.tN "backtrace" "Ljava/lang/Object;", .lays Bundle.tN Bundle.tN "backtrace" "Ljava/lang/Object;", .lays X Bundle.tN "backtrace" "Ljava/lang/Object;"]
def thA (X : String) : List Cond := Bundle.throwableAtoms ++ Bundle.throwableSAtoms ++ Bundle.chainSAtoms X thn
theorem thA0 : (thA (mm_ex 0)).all thb = true := by decide +kernel
theorem thA1 : (thA (mm_ex 1)).all thb = true := by decide +kernel
theorem thA2 : (thA (mm_ex 2)).all thb = true := by decide +kernel
theorem thB0 : (thB (mm_ex 0)).all thb = true := by decide +kernel
theorem thB1 : (thB (mm_ex 1)).all thb = true := by decide +kernel
theorem thB2 : (thB (mm_ex 2)).all thb = true := by decide +kernel
theorem thw (j : Nat) (hj : j < 3) (ic : Nat) (hl : Cond.methodLink "LazyTester" ic ⟨mm_ex j, "<init>", "(Ljava/lang/String;)V"⟩ ∈ mm_tb) : ∀ w ∈ Bundle.ownAtoms "LazyTester" ic (mm_ex j) thn, thP w := by
  intro w hw
  have e : Bundle.ownAtoms "LazyTester" ic (mm_ex j) thn = thA (mm_ex j) ++ (.methodLink "LazyTester" ic (Bundle.initS (mm_ex j)) :: thB (mm_ex j)) := rfl
  rw [e] at hw
  have hAB : (thA (mm_ex j)).all thb = true ∧ (thB (mm_ex j)).all thb = true := by
    match j, hj with
    | 0, _ => exact ⟨thA0, thB0⟩
    | 1, _ => exact ⟨thA1, thB1⟩
    | 2, _ => exact ⟨thA2, thB2⟩
  rcases List.mem_append.mp hw with h | h
  · exact thb_ok (List.all_eq_true.mp hAB.1 w h)
  · rcases List.mem_cons.mp h with rfl | h
    · exact Or.inl hl
    · exact thb_ok (List.all_eq_true.mp hAB.2 w h)
theorem mw2 : Cond.static Lib.MathLoose.min_long.x ∈ mm_tb := mm_in 400 (by decide +kernel) rfl
theorem mw3 : Cond.initialized "java/lang/Math" ∈ mm_tb := mm_in 17 (by decide +kernel) rfl
theorem mw4 : Cond.code Lib.MathLoose.min_long.x Lib.MathLoose.min_long.code 4 (some .long) ∈ mm_tb := mm_in 401 (by decide +kernel) rfl
theorem mw5 : Cond.initialized "LazyTesterLaw" ∈ mm_tb := mm_in 0 (by decide +kernel) rfl
theorem mw6 : "LazyTesterLaw" ≠ "java/lang/invoke/MethodHandle" ∧ "LazyTesterLaw" ≠ "java/lang/invoke/VarHandle" := by decide +kernel
theorem thr16_13 {l : Launch} {X : Nat × (Nat → Int32)} {d : Nat} {L : List Value} {σ : mm_S} : mm_Run l X 16 d 13 L [] σ 1 6 (.inr (mm_ex 1)) σ := mm_throw (E := mm_ex 1) (text := "fields is not 0 .. 3") (names := thn) d16_13 d16_16 d16_17 d16_19 d16_22 (mm_in 319 (by decide +kernel) rfl) (mm_in 320 (by decide +kernel) rfl) (mm_in 15 (by decide +kernel) rfl) (mm_in 328 (by decide +kernel) rfl) (thw 1 (by decide) 89 (mm_in 329 (by decide +kernel) rfl)) (by decide +kernel) (by decide +kernel) (by decide) rfl
theorem thr16_44 {l : Launch} {X : Nat × (Nat → Int32)} {d : Nat} {L : List Value} {σ : mm_S} : mm_Run l X 16 d 44 L [] σ 1 6 (.inr (mm_ex 2)) σ := mm_throw (E := mm_ex 2) (text := "the type has 4 constructors") (names := thn) d16_44 d16_47 d16_48 d16_50 d16_53 (mm_in 343 (by decide +kernel) rfl) (mm_in 344 (by decide +kernel) rfl) (mm_in 16 (by decide +kernel) rfl) (mm_in 352 (by decide +kernel) rfl) (thw 2 (by decide) 104 (mm_in 353 (by decide +kernel) rfl)) (by decide +kernel) (by decide +kernel) (by decide) rfl
theorem thr17_10 {l : Launch} {X : Nat × (Nat → Int32)} {d : Nat} {L : List Value} {σ : mm_S} : mm_Run l X 17 d 10 L [] σ 1 6 (.inr (mm_ex 0)) σ := mm_throw (E := mm_ex 0) (text := "no such type") (names := thn) d17_10 d17_13 d17_14 d17_16 d17_19 (mm_in 251 (by decide +kernel) rfl) (mm_in 252 (by decide +kernel) rfl) (mm_in 14 (by decide +kernel) rfl) (mm_in 292 (by decide +kernel) rfl) (thw 0 (by decide) 214 (mm_in 293 (by decide +kernel) rfl)) (by decide +kernel) (by decide +kernel) (by decide) rfl
theorem thr18_56 {l : Launch} {X : Nat × (Nat → Int32)} {d : Nat} {L : List Value} {σ : mm_S} : mm_Run l X 18 d 56 L [] σ 1 6 (.inr (mm_ex 1)) σ := mm_throw (E := mm_ex 1) (text := "a type for a field that there is not") (names := thn) d18_56 d18_59 d18_60 d18_62 d18_65 (mm_in 319 (by decide +kernel) rfl) (mm_in 320 (by decide +kernel) rfl) (mm_in 15 (by decide +kernel) rfl) (mm_in 338 (by decide +kernel) rfl) (thw 1 (by decide) 89 (mm_in 329 (by decide +kernel) rfl)) (by decide +kernel) (by decide +kernel) (by decide) rfl
theorem thr37_9 {l : Launch} {X : Nat × (Nat → Int32)} {d : Nat} {L : List Value} {σ : mm_S} : mm_Run l X 37 d 9 L [] σ 1 6 (.inr (mm_ex 1)) σ := mm_throw (E := mm_ex 1) (text := "depth is not 0 .. 4") (names := thn) d37_9 d37_12 d37_13 d37_15 d37_18 (mm_in 319 (by decide +kernel) rfl) (mm_in 320 (by decide +kernel) rfl) (mm_in 15 (by decide +kernel) rfl) (mm_in 436 (by decide +kernel) rfl) (thw 1 (by decide) 89 (mm_in 329 (by decide +kernel) rfl)) (by decide +kernel) (by decide +kernel) (by decide) rfl
theorem thr40_12 {l : Launch} {X : Nat × (Nat → Int32)} {d : Nat} {L : List Value} {σ : mm_S} : mm_Run l X 40 d 12 L [] σ 1 6 (.inr (mm_ex 2)) σ := mm_throw (E := mm_ex 2) (text := "no value of that number") (names := thn) d40_12 d40_15 d40_16 d40_18 d40_21 (mm_in 343 (by decide +kernel) rfl) (mm_in 344 (by decide +kernel) rfl) (mm_in 16 (by decide +kernel) rfl) (mm_in 448 (by decide +kernel) rfl) (thw 2 (by decide) 104 (mm_in 353 (by decide +kernel) rfl)) (by decide +kernel) (by decide +kernel) (by decide) rfl
theorem thr54_11 {l : Launch} {X : Nat × (Nat → Int32)} {d : Nat} {L : List Value} {σ : mm_S} : mm_Run l X 54 d 11 L [] σ 1 6 (.inr (mm_ex 1)) σ := mm_throw (E := mm_ex 1) (text := "size is not 1 .. 12") (names := thn) d54_11 d54_14 d54_15 d54_17 d54_20 (mm_in 319 (by decide +kernel) rfl) (mm_in 320 (by decide +kernel) rfl) (mm_in 15 (by decide +kernel) rfl) (mm_in 507 (by decide +kernel) rfl) (thw 1 (by decide) 89 (mm_in 329 (by decide +kernel) rfl)) (by decide +kernel) (by decide +kernel) (by decide) rfl
theorem thr64_13 {l : Launch} {X : Nat × (Nat → Int32)} {d : Nat} {L : List Value} {σ : mm_S} : mm_Run l X 64 d 13 L [] σ 1 6 (.inr (mm_ex 1)) σ := mm_throw (E := mm_ex 1) (text := "c is not 0 .. 3") (names := thn) d64_13 d64_16 d64_17 d64_19 d64_22 (mm_in 319 (by decide +kernel) rfl) (mm_in 320 (by decide +kernel) rfl) (mm_in 15 (by decide +kernel) rfl) (mm_in 562 (by decide +kernel) rfl) (thw 1 (by decide) 89 (mm_in 329 (by decide +kernel) rfl)) (by decide +kernel) (by decide +kernel) (by decide) rfl
theorem thr65_7 {l : Launch} {X : Nat × (Nat → Int32)} {d : Nat} {L : List Value} {σ : mm_S} : mm_Run l X 65 d 7 L [] σ 1 6 (.inr (mm_ex 1)) σ := mm_throw (E := mm_ex 1) (text := "no path of at most 4 steps") (names := thn) d65_7 d65_10 d65_11 d65_13 d65_16 (mm_in 319 (by decide +kernel) rfl) (mm_in 320 (by decide +kernel) rfl) (mm_in 15 (by decide +kernel) rfl) (mm_in 561 (by decide +kernel) rfl) (thw 1 (by decide) 89 (mm_in 329 (by decide +kernel) rfl)) (by decide +kernel) (by decide +kernel) (by decide) rfl
theorem thr67_12 {l : Launch} {X : Nat × (Nat → Int32)} {d : Nat} {L : List Value} {σ : mm_S} : mm_Run l X 67 d 12 L [] σ 1 6 (.inr (mm_ex 2)) σ := mm_throw (E := mm_ex 2) (text := "20 properties have been made") (names := thn) d67_12 d67_15 d67_16 d67_18 d67_21 (mm_in 343 (by decide +kernel) rfl) (mm_in 344 (by decide +kernel) rfl) (mm_in 16 (by decide +kernel) rfl) (mm_in 571 (by decide +kernel) rfl) (thw 2 (by decide) 104 (mm_in 353 (by decide +kernel) rfl)) (by decide +kernel) (by decide +kernel) (by decide) rfl
theorem thr73_9 {l : Launch} {X : Nat × (Nat → Int32)} {d : Nat} {L : List Value} {σ : mm_S} : mm_Run l X 73 d 9 L [] σ 1 6 (.inr (mm_ex 1)) σ := mm_throw (E := mm_ex 1) (text := "what is not 0 .. 2") (names := thn) d73_9 d73_12 d73_13 d73_15 d73_18 (mm_in 319 (by decide +kernel) rfl) (mm_in 320 (by decide +kernel) rfl) (mm_in 15 (by decide +kernel) rfl) (mm_in 590 (by decide +kernel) rfl) (thw 1 (by decide) 89 (mm_in 329 (by decide +kernel) rfl)) (by decide +kernel) (by decide +kernel) (by decide) rfl
theorem thr73_33 {l : Launch} {X : Nat × (Nat → Int32)} {d : Nat} {L : List Value} {σ : mm_S} : mm_Run l X 73 d 33 L [] σ 1 6 (.inr (mm_ex 2)) σ := mm_throw (E := mm_ex 2) (text := "too few properties lie on the pile") (names := thn) d73_33 d73_36 d73_37 d73_39 d73_42 (mm_in 343 (by decide +kernel) rfl) (mm_in 344 (by decide +kernel) rfl) (mm_in 16 (by decide +kernel) rfl) (mm_in 598 (by decide +kernel) rfl) (thw 2 (by decide) 104 (mm_in 353 (by decide +kernel) rfl)) (by decide +kernel) (by decide +kernel) (by decide) rfl
theorem thr78_30 {l : Launch} {X : Nat × (Nat → Int32)} {d : Nat} {L : List Value} {σ : mm_S} : mm_Run l X 78 d 30 L [] σ 1 6 (.inr (mm_ex 2)) σ := mm_throw (E := mm_ex 2) (text := "there are more than 1000 values") (names := thn) d78_30 d78_33 d78_34 d78_36 d78_39 (mm_in 343 (by decide +kernel) rfl) (mm_in 344 (by decide +kernel) rfl) (mm_in 16 (by decide +kernel) rfl) (mm_in 618 (by decide +kernel) rfl) (thw 2 (by decide) 104 (mm_in 353 (by decide +kernel) rfl)) (by decide +kernel) (by decide +kernel) (by decide) rfl
theorem thr79_10 {l : Launch} {X : Nat × (Nat → Int32)} {d : Nat} {L : List Value} {σ : mm_S} : mm_Run l X 79 d 10 L [] σ 1 6 (.inr (mm_ex 2)) σ := mm_throw (E := mm_ex 2) (text := "the pile is empty") (names := thn) d79_10 d79_13 d79_14 d79_16 d79_19 (mm_in 343 (by decide +kernel) rfl) (mm_in 344 (by decide +kernel) rfl) (mm_in 16 (by decide +kernel) rfl) (mm_in 616 (by decide +kernel) rfl) (thw 2 (by decide) 104 (mm_in 353 (by decide +kernel) rfl)) (by decide +kernel) (by decide +kernel) (by decide) rfl
theorem thr90_51 {l : Launch} {X : Nat × (Nat → Int32)} {d : Nat} {L : List Value} {σ : mm_S} : mm_Run l X 90 d 51 L [] σ 1 6 (.inr (mm_ex 2)) σ := mm_throw (E := mm_ex 2) (text := "more than 2000 evaluations") (names := thn) d90_51 d90_54 d90_55 d90_57 d90_60 (mm_in 343 (by decide +kernel) rfl) (mm_in 344 (by decide +kernel) rfl) (mm_in 16 (by decide +kernel) rfl) (mm_in 703 (by decide +kernel) rfl) (thw 2 (by decide) 104 (mm_in 353 (by decide +kernel) rfl)) (by decide +kernel) (by decide +kernel) (by decide) rfl
