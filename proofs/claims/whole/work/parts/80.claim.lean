/-! ===== the claim ===== -/
theorem law_all {l : Launch} {X : Nat × (Nat → Int32)} (hX : X.1 ≤ 3072) : ∃ σ', mm_Call l X 145 31 [.retAddr 0] ([], mm_Z, mm_Y) 558 8981 (.inl (some (.int 1))) σ' := by
  obtain ⟨σ', rr⟩ := law_loop (l := l) (X := X) (d := 0) (by omega) 512 0 mm_Z mm_Y (by omega) (by omega) LI0
  rw [nI_0] at rr
  exact ⟨σ', law_pre (d := 29) rr⟩
theorem ins0 : Cond.instantiable "LazyTester" 10 ∈ mm_tb := mm_in 22 (by decide +kernel) rfl
theorem ins1 : Cond.instantiable "LazyTester$Types" 3 ∈ mm_tb := mm_in 30 (by decide +kernel) rfl
theorem ins2 : Cond.instantiable "LazyTester$DepthTable" 3 ∈ mm_tb := mm_in 47 (by decide +kernel) rfl
theorem ins3 : Cond.instantiable "LazyTester$SizeTable" 3 ∈ mm_tb := mm_in 64 (by decide +kernel) rfl
theorem ins4 : Cond.instantiable "LazyTester$Row" 2 ∈ mm_tb := mm_in 80 (by decide +kernel) rfl
theorem ins5 : Cond.instantiable "LazyTester$Value" 5 ∈ mm_tb := mm_in 93 (by decide +kernel) rfl
theorem ins6 : Cond.instantiable "LazyTester$SizedValues" 4 ∈ mm_tb := mm_in 115 (by decide +kernel) rfl
theorem ins7 : Cond.instantiable "LazyTester$Pile" 6 ∈ mm_tb := mm_in 134 (by decide +kernel) rfl
theorem ins8 : Cond.instantiable "LazyTester$Refining" 6 ∈ mm_tb := mm_in 159 (by decide +kernel) rfl
theorem ins9 : Cond.instantiable "LazyTesterModel" 27 ∈ mm_tb := mm_in 706 (by decide +kernel) rfl
theorem zs0 : Cond.laysStatic "LazyTester$Outcome" "HELD" "LLazyTester$Outcome;" ∈ lw_tbl := List.mem_append_right _ (List.mem_of_getElem? (i := 693) (by decide +kernel))
theorem zs1 : Cond.laysStatic "LazyTester$Outcome" "REFUTED" "LLazyTester$Outcome;" ∈ lw_tbl := List.mem_append_right _ (List.mem_of_getElem? (i := 681) (by decide +kernel))
theorem zs2 : Cond.laysStatic "LazyTester$Outcome" "FAILED" "LLazyTester$Outcome;" ∈ lw_tbl := List.mem_append_right _ (List.mem_of_getElem? (i := 691) (by decide +kernel))
theorem zs3 : Cond.laysStatic "java/lang/Throwable" "UNASSIGNED_STACK" "[Ljava/lang/StackTraceElement;" ∈ lw_tbl := List.mem_append_right _ (List.mem_of_getElem? (i := 278) (by decide +kernel))
theorem zs4 : Cond.laysStatic "java/lang/Throwable" "SUPPRESSED_SENTINEL" "Ljava/util/List;" ∈ lw_tbl := List.mem_append_right _ (List.mem_of_getElem? (i := 280) (by decide +kernel))
theorem zi0 : Cond.initialized "LazyTester$Outcome" ∈ lw_tbl := List.mem_append_right _ (List.mem_of_getElem? (i := 20) (by decide +kernel))
theorem zi1 : Cond.initialized "java/lang/Throwable" ∈ lw_tbl := List.mem_append_right _ (List.mem_of_getElem? (i := 11) (by decide +kernel))
theorem mm_arr {args : Array Value} {s : State} {ty : FieldType} (hty : ty = .int ∨ ty = .long) (h : (Cond.arrayClass ty).before args s = true) : ∃ cA, ArrOfT s cA ty ∧ va_RA s cA ty := by
  obtain ⟨cA, kA, comp, h1, h2, h3⟩ := Cond.arrayClass_spec h
  rcases hty with rfl | rfl
  · exact ⟨cA, fun n z => ⟨fun k h => (by cases h), kA, h2, comp, h3⟩, h1⟩
  · exact ⟨cA, fun n z => ⟨fun k h => (by cases h), kA, h2, comp, h3⟩, h1⟩
theorem mm_kn {args : Array Value} {s : State} {ci : Nat} {C : String} {T : u_T} {N : Nat} (hts : ∀ w ∈ mm_tb, w.before args s = true) (hok : mm_okc ci) (hci : mm_cl[ci]? = some (C, T, N)) (hi : Cond.instantiable C N ∈ mm_tb) : ∃ (cC : ClassId) (iS : Nat → Nat), ∀ q : vw_C, mm_cl[ci]? = some q → u_Kn s q.1 q.2.1 q.2.2 cC iS := by
  obtain ⟨C', T', N', c1, c2, c3, -⟩ := hok
  cases Option.some.inj (c1.symm.trans hci)
  obtain ⟨cC, iS, hK⟩ := u_known hts c3 (hts _ hi)
  exact ⟨cC, iS, fun q hq => by cases Option.some.inj (hq.symm.trans hci); exact hK⟩
theorem mm_known {args : Array Value} {s : State} (hts : ∀ w ∈ mm_tb, w.before args s = true) : ∃ D : va_G, ∀ (c : Nat) (q : vw_C), mm_cl[c]? = some q → u_Kn s q.1 q.2.1 q.2.2 (D.1 c) (D.2 c) := by
  have h : ∀ ci : Nat, ∃ (cC : ClassId) (iS : Nat → Nat), ∀ q : vw_C, mm_cl[ci]? = some q → u_Kn s q.1 q.2.1 q.2.2 cC iS := by
    intro ci
    match ci with
    | 0 => exact mm_kn hts okc0 rfl ins0
    | 1 => exact mm_kn hts okc1 rfl ins1
    | 2 => exact mm_kn hts okc2 rfl ins2
    | 3 => exact mm_kn hts okc3 rfl ins3
    | 4 => exact mm_kn hts okc4 rfl ins4
    | 5 => exact mm_kn hts okc5 rfl ins5
    | 6 => exact mm_kn hts okc6 rfl ins6
    | 7 => exact mm_kn hts okc7 rfl ins7
    | 8 => exact mm_kn hts okc8 rfl ins8
    | 9 => exact mm_kn hts okc9 rfl ins9
    | n + 10 =>
      obtain ⟨cC, iS, -⟩ := mm_kn hts okc0 rfl ins0
      refine ⟨cC, iS, fun q hq => ?_⟩
      have hl : mm_cl.length = 10 := rfl
      have := (List.getElem?_eq_some_iff.mp hq).1
      omega
  exact ⟨(fun c => Classical.choose (h c), fun c => Classical.choose (Classical.choose_spec (h c))), fun c q hq => Classical.choose_spec (Classical.choose_spec (h c)) q hq⟩
theorem mm_enum {args : Array Value} {s : State} {t : Term} {C : String} (hex : (Cond.exactly t C).before args s = true) : ∃ a, t.eval args s none [] s = some (.ref a) := by
  obtain ⟨a, -, -, -, ha, -⟩ := Cond.exactly_spec hex
  exact ⟨a, ha⟩
theorem mm_apart {args : Array Value} {s : State} {t1 t2 : Term} {a : Nat} (h : (Cond.not (Cond.eq t1 t2)).before args s = true) (h1 : t1.eval args s none [] s = some (.ref a)) (h2 : t2.eval args s none [] s = some (.ref a)) : False := by
  simp [Cond.before, Cond.holds, Cond.value, h1, h2] at h
def lw_P (b : Addr) (xs : List Int32) (args : Array Value) (s : State) : Prop := args = #[.ref b] ∧ s.IntsAt b xs ∧ xs.length ≤ 3072 ∧ (Jvm.Cond.and given_1 narrow_1).before args s = true
def lw_Q (_ : Array Value) (s : State) (o : Outcome) (t : State) : Prop := o = .returned (some (.int 1)) ∧ Framed s o t [] 601024 7293034
theorem lw_fz {b : Nat} {s : State} {L : Nat} {xs : Nat → Int32} (hts : ∀ w ∈ lw_tbl, w.before #[Value.ref b] s = true) (hX : va_X b L xs s s.heap) (hbl : b < s.heap.size) (hgv : (Jvm.Cond.and given_1 narrow_1).before #[Value.ref b] s = true) : ∃ φ : List Nat, φ[0]? = some b ∧ mm_Fz (L, xs) φ (fun q => s.heap.size ≤ q) s s.heap := by
  have hs := flat_of_before _ hgv
  have hA : ∀ a : Nat, a < s.heap.size → ¬ (fun q : Nat => s.heap.size ≤ q) a := fun a h1 h2 => Nat.lt_irrefl _ (Nat.lt_of_lt_of_le h1 h2)
  obtain ⟨a0, e0⟩ := mm_enum (hs (Cond.exactly (.static "LazyTester$Outcome" "HELD" "LLazyTester$Outcome;") "LazyTester$Outcome") (by decide +kernel))
  obtain ⟨a1, e1⟩ := mm_enum (hs (Cond.exactly (.static "LazyTester$Outcome" "REFUTED" "LLazyTester$Outcome;") "LazyTester$Outcome") (by decide +kernel))
  obtain ⟨a2, e2⟩ := mm_enum (hs (Cond.exactly (.static "LazyTester$Outcome" "FAILED" "LLazyTester$Outcome;") "LazyTester$Outcome") (by decide +kernel))
  have n12 : a1 ≠ a2 := fun z => mm_apart (hs (Cond.not (Cond.eq (.static "LazyTester$Outcome" "REFUTED" "LLazyTester$Outcome;") (.static "LazyTester$Outcome" "FAILED" "LLazyTester$Outcome;"))) (by decide +kernel)) e1 (by rw [z]; exact e2)
  have n10 : a1 ≠ a0 := fun z => mm_apart (hs (Cond.not (Cond.eq (.static "LazyTester$Outcome" "REFUTED" "LLazyTester$Outcome;") (.static "LazyTester$Outcome" "HELD" "LLazyTester$Outcome;"))) (by decide +kernel)) e1 (by rw [z]; exact e0)
  have n20 : a2 ≠ a0 := fun z => mm_apart (hs (Cond.not (Cond.eq (.static "LazyTester$Outcome" "FAILED" "LLazyTester$Outcome;") (.static "LazyTester$Outcome" "HELD" "LLazyTester$Outcome;"))) (by decide +kernel)) e2 (by rw [z]; exact e0)
  refine ⟨[b, a0, a1, a2], rfl, ⟨b, rfl, hX, hA b hbl, hbl⟩, fun j hj => ?_, fun i j a hi hj h1 h2 => ?_, ?_, ?_, fun i j hi hj hij => ?_, ?_, ?_⟩
  · match j, hj with
    | 0, _ => exact ⟨a0, rfl, va_Zref (hts _ zs0) (hts _ zi0) e0 hA⟩
    | 1, _ => exact ⟨a1, rfl, va_Zref (hts _ zs1) (hts _ zi0) e1 hA⟩
    | 2, _ => exact ⟨a2, rfl, va_Zref (hts _ zs2) (hts _ zi0) e2 hA⟩
    | j + 3, hj => omega
  · match i, hi, j, hj with
    | 0, _, 0, _ => rfl
    | 1, _, 1, _ => rfl
    | 2, _, 2, _ => rfl
    | 0, _, 1, _ => exact absurd ((Option.some.inj h2).trans (Option.some.inj h1).symm) n10
    | 0, _, 2, _ => exact absurd ((Option.some.inj h2).trans (Option.some.inj h1).symm) n20
    | 1, _, 0, _ => exact absurd ((Option.some.inj h1).trans (Option.some.inj h2).symm) n10
    | 1, _, 2, _ => exact absurd ((Option.some.inj h1).trans (Option.some.inj h2).symm) n12
    | 2, _, 0, _ => exact absurd ((Option.some.inj h1).trans (Option.some.inj h2).symm) n20
    | 2, _, 1, _ => exact absurd ((Option.some.inj h2).trans (Option.some.inj h1).symm) n12
    | i + 3, hi, _, _ => omega
    | _, _, j + 3, hj => omega
  · exact va_Zqof (hts _ zs3) (hts _ zi1) (hs (Cond.isRef (.static "java/lang/Throwable" "UNASSIGNED_STACK" "[Ljava/lang/StackTraceElement;")) (by decide +kernel)) hA
  · exact va_Zqof (hts _ zs4) (hts _ zi1) (hs (Cond.isRef (.static "java/lang/Throwable" "SUPPRESSED_SENTINEL" "Ljava/util/List;")) (by decide +kernel)) hA
  · match i, hi, j, hj with
    | 0, _, 0, _ => exact absurd rfl hij
    | 1, _, 1, _ => exact absurd rfl hij
    | 2, _, 2, _ => exact absurd rfl hij
    | 0, _, 1, _ => exact va_Nc.of (hs (Cond.not (Cond.castable "java/lang/IndexOutOfBoundsException" "java/lang/IllegalArgumentException")) (by decide +kernel))
    | 0, _, 2, _ => exact va_Nc.of (hs (Cond.not (Cond.castable "java/lang/IndexOutOfBoundsException" "java/lang/IllegalStateException")) (by decide +kernel))
    | 1, _, 0, _ => exact va_Nc.of (hs (Cond.not (Cond.castable "java/lang/IllegalArgumentException" "java/lang/IndexOutOfBoundsException")) (by decide +kernel))
    | 1, _, 2, _ => exact va_Nc.of (hs (Cond.not (Cond.castable "java/lang/IllegalArgumentException" "java/lang/IllegalStateException")) (by decide +kernel))
    | 2, _, 0, _ => exact va_Nc.of (hs (Cond.not (Cond.castable "java/lang/IllegalStateException" "java/lang/IndexOutOfBoundsException")) (by decide +kernel))
    | 2, _, 1, _ => exact va_Nc.of (hs (Cond.not (Cond.castable "java/lang/IllegalStateException" "java/lang/IllegalArgumentException")) (by decide +kernel))
    | i + 3, hi, _, _ => omega
    | _, _, j + 3, hj => omega
  · exact mm_LS.of (hts _ zs3) hA
  · exact mm_LS.of (hts _ zs4) hA
theorem mm_at145 : mm_cb 145 = code ∧ mm_ml 145 = maxLocals ∧ mm_rt 145 = ret ∧ mm_yn 145 = x ∧ mm_ht 145 = [] := ⟨rfl, rfl, rfl, rfl, rfl⟩
set_option maxHeartbeats 4000000 in
theorem lw_walk (l : Launch) (htr : ∀ e' : Env, l.admits e' → e'.platform.stackTraces = false) (b : Addr) (xs : List Int32) : MetFree l x (headSpec (Jvm.Cond.code x code maxLocals ret :: tables_1) room_1) (lw_P b xs) (fun _ _ _ _ _ => True) lw_Q := by
  refine MetFree.of_bodyS (code := code) (maxLocals := maxLocals) (ret := ret) (by decide) ?_ ?_
  · intro args s m h hn
    obtain ⟨meth, c, h1, h2, h3, h4, h5, h6, -, -⟩ := Cond.code_spec hn (atoms_spec (ws := Jvm.Cond.code x code maxLocals ret :: tables_1) h _ List.mem_cons_self)
    exact ⟨meth, c, h1, h2, h3, h4, h5, h6⟩
  · intro p e s m args below meth c s₁ B hml0 hP _
    obtain ⟨rfl, hx, hbd, hgv⟩ := hP
    obtain ⟨scr, harrAt, hlist, hof, hsmall⟩ := hx
    obtain ⟨hcb, hkn, -, -⟩ := State.arrayAt?_spec harrAt
    have hts0 : ∀ c ∈ (Jvm.Cond.code x code maxLocals ret :: tables_1), c.before #[Value.ref b] s = true := atoms_spec (ws := Jvm.Cond.code x code maxLocals ret :: tables_1) B.pre
    have hts : ∀ w ∈ lw_tbl, w.before #[Value.ref b] s = true := k2_hts_sels lw_privs (fun w hw => hts0 w (List.mem_cons_of_mem _ hw)) lw_privs_ok
    have htb : ∀ w ∈ mm_tb, w.before #[Value.ref b] s = true := fun w hw => hts w (List.mem_filter.mp hw).1
    obtain ⟨meth', c', a1, a2, a3, a4, a5, a6, a7, -⟩ := Cond.code_spec B.named (hts0 _ List.mem_cons_self)
    cases B.method.symm.trans a1
    have Y : Stand p l e room_1 s m #[Value.ref b] below meth c s₁ [] 0 0 := Stand.of_body B
    cases Y.code.symm.trans a2
    have hexc : c.exceptionTable = #[] := by simpa using a7
    have hnm := (name_of_methodNamed B.named B.method).1
    have hh0 : s₁.heap = s.heap := by rw [B.state]; rfl
    have hsz : scr.slots.size = xs.length := by rw [← Array.length_toList, hlist, List.length_map]
    have hval : ∀ j : Nat, j < xs.length → scr.slots[j]? = some (.int (xs.getD j 0)) := fun j hj => by
      rw [← Array.getElem?_toList, hlist]
      simp [hj]
    have hbl : b < s.heap.size := (Array.getElem?_eq_some_iff.mp hcb).1
    have hX : va_X b xs.length (fun j => xs.getD j 0) s s.heap := ⟨scr, hcb, hof, hkn, hsz, hval⟩
    obtain ⟨φ, hφ, hFz⟩ := lw_fz hts hX hbl hgv
    obtain ⟨D, hD⟩ := mm_known htb
    obtain ⟨cI, i1, i2⟩ := mm_arr (Or.inl rfl) (htb _ aw0)
    obtain ⟨cL, j1, j2⟩ := mm_arr (Or.inr rfl) (htb _ aw1)
    have hK : va_K D mm_cl [(cI, .int), (cL, .long)] s := ⟨hD, fun k q hk => by
      match k, hk with
      | 0, hk => cases hk; exact ⟨i1, i2⟩
      | 1, hk => cases hk; exact ⟨j1, j2⟩
      | k + 2, hk => simp at hk⟩
    obtain ⟨z1, z2, z3, z4, z5⟩ := mm_at145
    have hcx : mm_Cx l 145 31 (xs.length, fun j => xs.getD j 0) φ p e room_1 s m #[Value.ref b] meth c D (fun q => s.heap.size ≤ q) cI cL :=
      ⟨B.exec, B.bytes.trans z1.symm, hml0.trans z2.symm, B.returns.trans z3.symm, B.notSynchronized, by rw [z4]; exact findClass_of_methodNamed B.named, htb, hK, fun q h => h, hFz, by decide, by decide, by rw [z4]; exact hnm, by rw [hexc, z5]; rfl, htr⟩
    obtain ⟨σ', hcall⟩ := law_all (l := l) (X := (xs.length, fun j => xs.getD j 0)) hbd
    have hv : mm_Vs φ [] [.retAddr 0] [.ref b] := ⟨⟨b, hφ, rfl⟩, trivial⟩
    have hrun := hcall hcx (below := below) (cells := 0) (slots := 0) (locs := []) (ρ := []) (ws := []) (H := s.heap) ⟨rfl, rfl, fun p kd h => by simp at h⟩ (fun k q h => by simp at h) ⟨fun i j p q h => by simp at h, fun k q h => by simp at h⟩ va_S.rf (mm_entry hv (by rw [mm_sl_len hv]; decide)) (st := []) trivial (by decide) (by decide)
    rw [← lg_entry_eq] at hrun
    obtain ⟨t, b1, ro, δ, ws', Lc, c1, c2, c3, c4, c5, c6, c7, c8, c9⟩ := hrun s₁ hh0 Y
    obtain ⟨vr, rfl, hvr⟩ := c9
    have hvr' : vr = some (.int 1) := by
      cases vr with
      | none => exact hvr.elim
      | some w => exact congrArg some (show w = .int 1 from hvr)
    subst hvr'
    exact ⟨t, _, b1, c1, c2, rfl, ⟨_, rfl⟩, c7, (State.sameButNew.drop_fresh (L := []) (J := Lc) c8 c6.2.2).mono (by decide) (by decide)⟩
theorem lw_pre_spec {args : Array Value} {s : State} (h : (Jvm.Cond.and given_1 narrow_1).before args s = true) (hr : rest_1_c.before args s = true) : ∃ (b : Addr) (xs : List Int32), lw_P b xs args s := by
  have hs := flat_of_before _ h
  have hq := flat_of_before _ hr
  have hc : (Cond.count 1).before args s = true := hs _ (by decide +kernel)
  have harr : (Cond.arrayOf (.arg 0) .int).before args s = true := hs _ (by decide +kernel)
  have hle : (Cond.le (.length (.arg 0)) (.int 3072)).before args s = true := hs _ (by decide +kernel)
  have hlen : (Cond.isInt (.length (.arg 0))).before args s = true := hq _ (by decide +kernel)
  have hall : (Cond.all (.arg 0) (.isInt (.elem (.arg 0) (.index 0)))).before args s = true := hq _ (by decide +kernel)
  obtain ⟨b, xs, hb, hx⟩ := State.ints_of_pre rfl harr hlen hall
  have hsm : xs.length < 2 ^ 31 := hx.choose_spec.2.2.2
  have hev : (Term.length (.arg 0)).eval args s none [] s = some (.int xs.length.toInt32) := hx.length_eval hb
  have hv := Cond.le_ints hev (show (Term.int 3072).eval args s none [] s = some (.int 3072) from rfl)
  have hd : xs.length.toInt32 ≤ 3072 := by
    simpa [Cond.before, Cond.holds, hv] using hle
  have hN : xs.length ≤ 3072 := (Int32.ofNat_le_ofNat hsm (by decide)).mp (show Int32.ofNat xs.length ≤ Int32.ofNat 3072 from hd)
  exact ⟨b, xs, Cond.one_arg hc (show args[0]? = some (.ref b) from hb), hx, hN, h⟩
theorem lw_comes (l : Launch) (htr : ∀ e' : Env, l.admits e' → e'.platform.stackTraces = false) : Comes l x (Jvm.Cond.code x code maxLocals ret :: tables_1) room_1 (fun tb e args s => Calls_1 tb e args s ∧ rest_1 tb e args s ∧ Pre_1 tb e args s)
    (fun _ _ args s o t => lw_Q args s o t) := by
  intro p e ha hc hk s m args below hf hfit hheap happ hpre
  obtain ⟨b, xs, hP⟩ := lw_pre_spec hpre.2.2 hpre.2.1
  obtain ⟨k, o, h1, h2, h3, hQ⟩ := lw_walk l htr b xs p e ha hc hk s m args below hf ((Spec.applies_iff_loose hf).mp happ).1 hP trivial
  exact ⟨k, o, h1, h2, h3, hQ⟩
theorem lw_frame {s t : State} {o : Outcome} {args : Array Value} (h : Framed s o t [] 601024 7293034) :
    Framed s o t (fieldLocs frame_1_writes args s ++ arrayLocs frame_1_arrays args s ++ staticLocs frame_1_statics s) 601024 7293034 := h
theorem lw_limb (L : Cond) (hL : ∀ (args : Array Value) (s t : State), L.after args s (.returned (some (.int 1))) t = true) :
    ArmFor flags0 classFile x code maxLocals ret World_1 tables_1 room_1 Calls_1 rest_1 Pre_1
      (fun tb e a s o t => postC L tb e a s o t ∧ Framed s o t (fieldLocs frame_1_writes a s ++ arrayLocs frame_1_arrays a s ++ staticLocs frame_1_statics s) 601024 7293034) := by
  intro l hfl _ _ p e ha hc hk s m args below hf hfit hheap happ hpre
  obtain ⟨k, o, h1, h2, h3, rfl, hF⟩ := lw_comes l (fun e' ha' => Launch.traces_off hfl ha') p e ha hc hk s m args below hf hfit hheap happ hpre
  exact ⟨k, _, h1, h2, h3, hL args s _, lw_frame hF⟩
theorem i_vc : Claimed_1_1 ∧ Claimed_1_2 := ⟨lw_limb limb_1_1 (fun args s t => by simp [limb_1_1, Cond.after, Cond.holds, Cond.value]), lw_limb limb_1_2 (fun args s t => Cond.after_iff.mpr (by
  first | (rw [show limb_1_2 = Cond.eq .result (.int 1) from rfl, Cond.eq_ints (x := 1) (y := 1) rfl rfl]; simp; done) | (simp [limb_1_2, Cond.value, Term.eval]; done)))⟩
