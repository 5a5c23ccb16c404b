/-! ===== answers; a method's contract; calls that come back ===== -/
theorem mm_Wmono {p : Program} {l : Launch} {e : Env} {R : Room} {s : State} {m : MethodId} {args : Array Value} {below : List Frame} {meth : Method} {c : Code} {H : Heap} {locs : List Loc} {cells slots : Nat} {Q Q' : State → Prop} {g : JFrame}
    (h : ∀ t, Q t → Q' t) (k : W p l e R s m args below meth c H locs cells slots Q g) : W p l e R s m args below meth c H locs cells slots Q' g := by
  intro T hT X
  obtain ⟨t, a, b⟩ := k T hT X
  exact ⟨t, a, h t b⟩
theorem mm_Q.ext {φ ρ δ : List Nat} {D : va_G} {A : Nat → Prop} {cI cL : ClassId} {below : List Frame} {s : State} {nc ns nc' ns' : Nat} {o : mm_O} {σ' : mm_S} {t : State} (h : mm_Q φ (ρ ++ δ) D A cI cL below s nc ns o σ' t) (h1 : nc = nc') (h2 : ns = ns') :
    mm_Q φ ρ D A cI cL below s nc' ns' o σ' t := by
  subst h1; subst h2
  obtain ⟨ro, δ', ws', Lc, q⟩ := h
  rw [List.append_assoc] at q
  exact ⟨ro, δ ++ δ', ws', Lc, q⟩
theorem mm_Fz.move {X : Nat × (Nat → Int32)} {φ : List Nat} {A : Nat → Prop} {s U : State} {H : Heap} {locs : List Loc} (h : mm_Fz X φ A s s.heap) (hS : va_S A s.heap H locs) (hvm : s.vm.Alike U.vm) (hU : U.heap = H) : mm_Fz X φ A U U.heap := by
  subst hU
  obtain ⟨⟨b, b1, b2, b3, b4⟩, h2, h3, h4, h5, h6, h7, h8⟩ := h
  refine ⟨⟨b, b1, (b2.kept (hS.2.1 b b4 b3)).moved hvm, b3, Nat.lt_of_lt_of_le b4 hS.1⟩, fun j hj => ?_, h3, (h4.kept hS.2.1).moved hvm, (h5.kept hS.2.1).moved hvm, fun i j hi hj hij => (h6 i j hi hj hij).moved hvm, (h7.kept hS.2.1).moved hvm, (h8.kept hS.2.1).moved hvm⟩
  obtain ⟨a, a1, a2⟩ := h2 j hj
  exact ⟨a, a1, (a2.kept hS.2.1).moved hvm⟩
section MMR
variable {l : Launch} {X : Nat × (Nat → Int32)} {k d pc : Nat} {L S : List Value} {σ σ' : mm_S} {mc ms : Nat} {o : mm_O}
/-- more room may be asked for than is used -/
theorem mm_widen {mc' ms' : Nat} (h1 : mc ≤ mc') (h2 : ms ≤ ms') (hr : mm_Run l X k d pc L S σ mc ms o σ') : mm_Run l X k d pc L S σ mc' ms' o σ' := by
  intro p e R s m args below meth c D A cI cL φ hc H locs cells slots ρ ws ls st hW hP hD hS hL hV q1 q2
  refine mm_Wmono (fun t h => ?_) (hr hc hW hP hD hS hL hV (by omega) (by omega))
  obtain ⟨ro, δ, ws', Lc, a1, a2, a3, a4, a5, a6, a7, a8, a9⟩ := h
  exact ⟨ro, δ, ws', Lc, a1, a2, a3, a4, a5, a6, a7, a8.mono (by omega) (by omega), a9⟩
theorem mm_deeper {d' : Nat} (h : d ≤ d') (hr : mm_Run l X k d pc L S σ mc ms o σ') : mm_Run l X k d' pc L S σ mc ms o σ' := by
  intro p e R s m args below meth c D A cI cL φ hc
  obtain ⟨a1, a2, a3, a4, a5, a6, a7, a8, a9, a10, a11, a12, a13⟩ := hc
  exact hr ⟨a1, a2, a3, a4, a5, a6, a7, a8, a9, a10, by omega, by omega, a13⟩
theorem mm_ret0 {v : Option Value}
    (h : ∀ {p : Program} {e : Env} {R : Room} {s : State} {m : MethodId} {args : Array Value} {below : List Frame} {meth : Method} {c : Code} {D : va_G} {A : Nat → Prop} {cI cL : ClassId} {φ ρ : List Nat} {locs : List Loc} {cells slots : Nat} {ls : Array Slot} {st : List Value} {T : State},
      mm_Cx l k d X φ p e R s m args meth c D A cI cL → mm_Vs φ ρ S st → Stand p l e R s m args below meth c T locs cells slots →
      ∃ vr, mm_Vo φ ρ v vr ∧ (meth.sig.returnType = none → vr = none) ∧ ∀ fs, (∀ (f : JFrame) (acts : List Action), f.method = m → f.locked = none → f.entered = [] → (doReturn e (T.setTop f) acts vr).1 = T.setFrames fs) → Steps p.tables e below (T.setTop (F0 m pc ls st)) (T.setFrames fs)) :
    mm_Run l X k d pc L S σ mc ms (.inl v) σ := by
  intro p e R s m args below meth c D A cI cL φ hc H locs cells slots ρ ws ls st hW hP hD hS hL hV q1 q2 T hT Y
  subst hT
  obtain ⟨vr, v1, v2, v3⟩ := h (ρ := ρ) (ls := ls) hc hV Y
  obtain ⟨fs, hret, hrun, hended, hWm, hframe⟩ := Y.leave (v := vr) v2 hc.2.2.2.2.1
  refine ⟨T.setFrames fs, v3 fs hret, .returned vr, [], ws, locs, hrun, hended, ?_, hP, hD, hS, hWm, hframe.mono (by omega) (by omega), vr, rfl, ?_⟩
  · rw [List.append_nil]; exact hW
  · rw [List.append_nil]; exact v1
theorem mm_ireturn {x : Int32} (hd : decode (mm_cb k) pc = .ok (.ireturn, 1)) (hr : mm_rt k = some .int) : mm_Run l X k d pc L [.int x] σ mc ms (.inl (some (.int x))) σ := by
  refine mm_ret0 fun hc hV Y => ?_
  obtain ⟨_, st, rfl, rfl, hVn⟩ := hV.cons
  cases st with
  | cons _ _ => exact hVn.elim
  | nil =>
    have hr' := hc.2.2.2.1.trans hr
    refine ⟨some (.int x), rfl, (fun q => by rw [hr'] at q; cases q), fun fs hret => ?_⟩
    have hmeth' := Y.method'
    have hexec := hc.1
    have hb := hc.2.1
    jvm_step Y.here [Y.here.top, hexec, hb, hd, hmeth', hr', narrow]
    (try refine ⟨rfl, ?_⟩); (try refine ⟨rfl, ?_⟩)
    first | (intro acts; rw [hret _ acts rfl rfl rfl]) | rw [hret _ _ rfl rfl rfl]
    exact Steps.refl _
theorem mm_zreturn {x : Int32} (hd : decode (mm_cb k) pc = .ok (.ireturn, 1)) (hr : mm_rt k = some .boolean) (hx : x = 0 ∨ x = 1) : mm_Run l X k d pc L [.int x] σ mc ms (.inl (some (.int x))) σ := by
  refine mm_ret0 fun hc hV Y => ?_
  obtain ⟨_, st, rfl, rfl, hVn⟩ := hV.cons
  cases st with
  | cons _ _ => exact hVn.elim
  | nil =>
    have hr' := hc.2.2.2.1.trans hr
    refine ⟨some (.int x), rfl, (fun q => by rw [hr'] at q; cases q), fun fs hret => ?_⟩
    have hmeth' := Y.method'
    have hexec := hc.1
    have hb := hc.2.1
    have hn : narrow .boolean (.int x) = .int x := by rcases hx with rfl | rfl <;> rfl
    jvm_step Y.here [Y.here.top, hexec, hb, hd, hmeth', hr', hn]
    (try refine ⟨rfl, ?_⟩); (try refine ⟨rfl, ?_⟩)
    first | (intro acts; rw [hret _ acts rfl rfl rfl]) | rw [hret _ _ rfl rfl rfl]
    exact Steps.refl _
theorem mm_lreturn {x : Int64} (hd : decode (mm_cb k) pc = .ok (.lreturn, 1)) (hr : mm_rt k = some .long) : mm_Run l X k d pc L [.long x] σ mc ms (.inl (some (.long x))) σ := by
  refine mm_ret0 fun hc hV Y => ?_
  obtain ⟨_, st, rfl, rfl, hVn⟩ := hV.cons
  cases st with
  | cons _ _ => exact hVn.elim
  | nil =>
    have hr' := hc.2.2.2.1.trans hr
    refine ⟨some (.long x), rfl, (fun q => by rw [hr'] at q; cases q), fun fs hret => ?_⟩
    have hmeth' := Y.method'
    have hexec := hc.1
    have hb := hc.2.1
    jvm_step Y.here [Y.here.top, hexec, hb, hd, hmeth', hr', narrow]
    (try refine ⟨rfl, ?_⟩); (try refine ⟨rfl, ?_⟩)
    first | (intro acts; rw [hret _ acts rfl rfl rfl]) | rw [hret _ _ rfl rfl rfl]
    exact Steps.refl _
theorem mm_vreturn (hd : decode (mm_cb k) pc = .ok (.return_, 1)) (hr : mm_rt k = none) : mm_Run l X k d pc L [] σ mc ms (.inl none) σ := by
  refine mm_ret0 fun hc hV Y => ?_
  rename_i st _
  cases st with
  | cons _ _ => exact hV.elim
  | nil =>
    have hr' := hc.2.2.2.1.trans hr
    refine ⟨none, trivial, fun _ => rfl, fun fs hret => ?_⟩
    have hmeth' := Y.method'
    have hexec := hc.1
    have hb := hc.2.1
    jvm_step Y.here [Y.here.top, hexec, hb, hd, hmeth', hr']
    (try refine ⟨rfl, ?_⟩); (try refine ⟨rfl, ?_⟩)
    first | (intro acts; rw [hret _ acts rfl rfl rfl]) | rw [hret _ _ rfl rfl rfl]
    exact Steps.refl _
theorem mm_areturn {v : Value} {n : String} (hd : decode (mm_cb k) pc = .ok (.areturn, 1)) (hr : mm_rt k = some (.object n)) (hv : (∃ p, v = .ref p) ∨ ∃ j, v = .retAddr j) : mm_Run l X k d pc L [v] σ mc ms (.inl (some v)) σ := by
  refine mm_ret0 fun hc hV Y => ?_
  obtain ⟨w, st, rfl, hw, hVn⟩ := hV.cons
  obtain ⟨a, rfl⟩ := mm_isref hw hv
  cases st with
  | cons _ _ => exact hVn.elim
  | nil =>
    have hr' := hc.2.2.2.1.trans hr
    refine ⟨some (.ref a), hw, (fun q => by rw [hr'] at q; cases q), fun fs hret => ?_⟩
    have hmeth' := Y.method'
    have hexec := hc.1
    have hb := hc.2.1
    jvm_step Y.here [Y.here.top, hexec, hb, hd, hmeth', hr']
    (try refine ⟨rfl, ?_⟩); (try refine ⟨rfl, ?_⟩)
    first | (intro acts; rw [hret _ acts rfl rfl rfl]) | rw [hret _ _ rfl rfl rfl]
    exact Steps.refl _
end MMR
/-! a method, entered with arguments -/
def mm_Call (l : Launch) (X : Nat × (Nat → Int32)) (k d : Nat) (as : List Value) (σ : mm_S) (mc ms : Nat) (o : mm_O) (σ' : mm_S) : Prop :=
  mm_Run l X k d 0 (mm_pad (mm_ml k) (mm_en as)) [] σ mc ms o σ'
def mm_rm (d mc ms : Nat) : Room := { frames := d + 10, cells := mc, slots := ms, locals := 100 * d + 300 }
theorem mm_rm_f (d mc ms : Nat) : (mm_rm d mc ms).frames = d + 10 := rfl
theorem mm_rm_l (d mc ms : Nat) : (mm_rm d mc ms).locals = 100 * d + 300 := rfl
set_option maxRecDepth 8000 in
theorem mm_ar {z d r : Nat} (h1 : z ≤ 60) (h2 : 100 * (d + 1) + 300 ≤ r) : 8 + (z + 11) + (100 * d + 300) ≤ r := by omega
def mm_is (k : Nat) : Prop := plainName (mm_yn k).cls = true ∧ ∀ (args : Array Value) (s : State) (m : MethodId), (∀ w ∈ mm_tb, w.before args s = true) → s.methodNamed? (mm_yn k) = some m →
  ∃ meth c, s.vm.method? m = some meth ∧ meth.code = some c ∧ c.code = mm_cb k ∧ c.maxLocals = mm_ml k ∧ meth.sig.returnType = mm_rt k ∧ meth.locks = false ∧
    c.exceptionTable.toList.map (fun h => (h.startPc, h.endPc, h.handlerPc, h.catchType)) = mm_ht k ∧ meth.name = (mm_yn k).name
theorem mm_is_of {k : Nat} (h0 : plainName (mm_yn k).cls = true) (h : Cond.code (mm_yn k) (mm_cb k) (mm_ml k) (mm_rt k) ∈ mm_tb) (h2 : mm_ht k = []) : mm_is k := by
  refine ⟨h0, fun args s m hts hn => ?_⟩
  obtain ⟨meth, c, a1, a2, a3, a4, a5, a6, a7, -⟩ := Cond.code_spec hn (hts _ h)
  refine ⟨meth, c, a1, a2, a3, a4, a5, a6, ?_, (name_of_methodNamed hn a1).1⟩
  have : c.exceptionTable = #[] := by simpa using a7
  rw [this, h2]; rfl
theorem mm_is_ofW {k : Nat} (h0 : plainName (mm_yn k).cls = true) (h : Cond.codeWith (mm_yn k) (mm_cb k) (mm_ml k) (mm_rt k) (mm_ht k) ∈ mm_tb) : mm_is k := by
  refine ⟨h0, fun args s m hts hn => ?_⟩
  obtain ⟨m', meth, c, a0, a1, a2, a3, a4, a5, a6, a7, -⟩ := Cond.codeWith_spec (hts _ h)
  cases hn.symm.trans a0
  exact ⟨meth, c, a1, a2, a3, a4, a6, a7, a5, (name_of_methodNamed hn a1).1⟩
def mm_P (X : Nat × (Nat → Int32)) (φ : List Nat) (D : va_G) (A : Nat → Prop) (cI cL : ClassId) (ws : va_W) (avr : List Value) : Array Value → State → Prop := fun a U =>
  a = avr.toArray ∧ va_K D mm_cl [(cI, .int), (cL, .long)] U ∧ va_P D mm_cl ws U.heap ∧ va_D A ws ∧ (∀ q, U.heap.size ≤ q → A q) ∧ mm_Fz X φ A U U.heap
theorem mm_P.blind {X : Nat × (Nat → Int32)} {φ : List Nat} {D : va_G} {A : Nat → Prop} {cI cL : ClassId} {ws : va_W} {avr : List Value} : FrameBlind (mm_P X φ D A cI cL ws avr) := by
  intro a U g mk h
  obtain ⟨h1, h2, h3, h4, h5, h6⟩ := h
  have hvm : U.vm.Alike (U.calling g mk a).vm := (State.WarmedH.refl U).alike
  exact ⟨h1, h2.moved hvm, h3, h4, h5, h6.move (va_S.rf (A := A)) hvm rfl⟩
def mm_QO (φ ρ : List Nat) (D : va_G) (A : Nat → Prop) (cI cL : ClassId) (o : mm_O) (σ' : mm_S) : Array Value → State → Outcome → State → Prop := fun _ st oc t =>
  ∃ δ ws', mm_W φ (ρ ++ δ) cI cL σ' ws' ∧ va_P D mm_cl ws' t.heap ∧ va_D A ws' ∧ va_F A st t ∧ mm_Oc φ (ρ ++ δ) st o oc t
theorem mm_free {l : Launch} {X : Nat × (Nat → Int32)} {k d : Nat} {as : List Value} {σ σ' : mm_S} {mc ms : Nat} {o : mm_O} (hk : mm_is k) (hcat : (as.map fun v => v.category).sum ≤ mm_ml k) (htr : ∀ e' : Env, l.admits e' → e'.platform.stackTraces = false)
    (h : mm_Call l X k d as σ mc ms o σ') {φ ρ : List Nat} {D : va_G} {A : Nat → Prop} {cI cL : ClassId} {ws : va_W} {avr : List Value} (hv : mm_Vs φ ρ as avr) (hW : mm_W φ ρ cI cL σ ws) :
    MetFree l (mm_yn k) (headSpec mm_tb (mm_rm d mc ms)) (mm_P X φ D A cI cL ws avr) (fun _ _ _ _ _ => True)
      (fun a st oc t => mm_QO φ ρ D A cI cL o σ' a st oc t ∧ ∃ Lc, st.WarmedH t.vm ∧ st.sameButNew ({ t with vm := st.vm } : State) Lc mc ms ∧ ∀ q ∈ Lc, A q.base) := by
  refine MetFree.of_bodyS (code := mm_cb k) (maxLocals := mm_ml k) (ret := mm_rt k) hk.1 ?_ ?_
  · intro args s m hpre hn
    obtain ⟨meth, c, a1, a2, a3, a4, a5, a6, -⟩ := hk.2 args s m (fun w hw => atoms_spec (ws := mm_tb) hpre w hw) hn
    exact ⟨meth, c, a1, a2, a3, a4, a5, a6⟩
  · intro p e s m args below meth c s₁ B hml hp _
    obtain ⟨rfl, hK, hP, hD, hA, hF⟩ := hp
    have hts : ∀ w ∈ mm_tb, w.before avr.toArray s = true := fun w hw => atoms_spec (ws := mm_tb) B.pre w hw
    obtain ⟨meth', c', a1, a2, a3, a4, a5, a6, a7, a8⟩ := hk.2 _ s m hts B.named
    cases B.method.symm.trans a1
    have Y := Stand.of_body B
    cases Y.code.symm.trans a2
    have hh0 : s₁.heap = s.heap := by rw [B.state]; rfl
    have hcx : mm_Cx l k d X φ p e (mm_rm d mc ms) s m avr.toArray meth c D A cI cL :=
      ⟨B.exec, B.bytes, hml, B.returns, B.notSynchronized, findClass_of_methodNamed B.named, hts, hK, hA, hF, Nat.le_refl _, Nat.le_refl _, a8, a7, htr⟩
    have hrun := h hcx (below := below) (cells := 0) (slots := 0) (locs := []) hW hP hD (va_S.rf (A := A)) (mm_entry hv (by rw [mm_sl_len hv]; exact hcat)) (st := []) trivial (by simp [mm_rm]) (by simp [mm_rm])
    rw [← lg_entry_eq] at hrun
    obtain ⟨t, b1, ro, δ, ws', Lc, c1, c2, c3, c4, c5, c6, c7, c8, c9⟩ := hrun s₁ hh0 Y
    rw [Nat.zero_add, Nat.zero_add] at c8
    exact ⟨t, ro, b1, c1, c2, ⟨δ, ws', c3, c4, c5, ⟨c6.1, c6.2.1⟩, c9⟩, Lc, c7, c8, c6.2.2⟩
/-- a method that answers: the kit's contract -/
theorem mm_met {l : Launch} {X : Nat × (Nat → Int32)} {k d : Nat} {as : List Value} {σ σ' : mm_S} {mc ms : Nat} {v : Option Value} (hk : mm_is k) (hcat : (as.map fun v => v.category).sum ≤ mm_ml k) (htr : ∀ e' : Env, l.admits e' → e'.platform.stackTraces = false)
    (h : mm_Call l X k d as σ mc ms (.inl v) σ') {φ ρ : List Nat} {D : va_G} {A : Nat → Prop} {cI cL : ClassId} {ws : va_W} {avr : List Value} (hv : mm_Vs φ ρ as avr) (hW : mm_W φ ρ cI cL σ ws) :
    Met l (mm_yn k) mm_tb (mm_rm d mc ms) (mm_P X φ D A cI cL ws avr) (mm_QO φ ρ D A cI cL (.inl v) σ') mc ms A := by
  intro p e ha hc hk0 s m args below hf happ hP hK
  obtain ⟨n, oc, q1, q2, q3, q4, Lc, q5, q6, q7⟩ := mm_free hk hcat htr h hv hW p e ha hc hk0 s m args below hf happ hP hK
  refine ⟨n, oc, q1, q2, q3, q4, Lc, ⟨?_, q5, q6⟩, q7⟩
  obtain ⟨δ, ws', -, -, -, -, vr, hvr, -⟩ := q4
  exact ⟨vr, hvr⟩
section MMC
variable {l : Launch} {X : Nat × (Nat → Int32)} {k d pc : Nat} {L S : List Value} {σ σ1 σ' : mm_S} {mc ms mc1 ms1 : Nat} {o : mm_O}
theorem mm_goes {p : Program} {e : Env} {R : Room} {s : State} {m : MethodId} {args : Array Value} {below : List Frame} {meth : Method} {c : Code} {D : va_G} {A : Nat → Prop} {cI cL : ClassId} {φ ρ : List Nat} {H : Heap} {locs : List Loc} {cells slots : Nat} {ls : Array Slot} {st0 rest : List Value} {v : Option Value} {a : Array Value} {Q : State → Prop}
    (hr : va_Run p l e R s m args below meth c H locs cells slots mc1 ms1 (F0 m pc ls st0) rest (mm_QO φ ρ D A cI cL (.inl v) σ1 a) A) (hS : va_S A s.heap H locs)
    (kk : ∀ δ ws' H1 locs1 vr, mm_W φ (ρ ++ δ) cI cL σ1 ws' → va_P D mm_cl ws' H1 → va_D A ws' → va_S A s.heap H1 locs1 → mm_Vo φ (ρ ++ δ) v vr → W p l e R s m args below meth c H1 locs1 (cells + mc1) (slots + ms1) Q (F0 m (pc + 3) ls (vr.toList ++ rest))) :
    W p l e R s m args below meth c H locs cells slots Q (F0 m pc ls st0) := by
  intro T hT Y
  obtain ⟨v0, st₀, t, T', Lc, z0, Y', z1, z2, z3, ⟨δ, ws', w1, w2, w3, w4, vr, w5, w6⟩, z4⟩ := hr T hT Y
  cases w5
  obtain ⟨w7, w8⟩ := w4
  rw [z0] at w7 w8
  have hS' : va_S A s.heap T'.heap (locs ++ Lc) := ⟨Nat.le_trans hS.1 (by rw [z2]; exact w7), fun q h1 h2 => by rw [z2, w8 q (Nat.lt_of_lt_of_le h1 hS.1) h2]; exact hS.2.1 q h1 h2, fun q hq => by
    rcases List.mem_append.mp hq with hq | hq
    · exact hS.2.2 q hq
    · exact z1 q hq⟩
  obtain ⟨tt, y1, y2⟩ := kk δ ws' T'.heap (locs ++ Lc) v0 w1 (by rw [z2]; exact w2) w3 hS' w6 T' rfl Y'
  exact ⟨tt, z4 tt y1, y2⟩
def mm_okm (k' n : Nat) : Prop := Cond.code (mm_yn k') (mm_cb k') (mm_ml k') (mm_rt k') ∈ mm_tb ∧ Cond.initialized (mm_yn k').cls ∈ mm_tb ∧ (mm_yn k').cls ≠ "java/lang/invoke/MethodHandle" ∧ (mm_yn k').cls ≠ "java/lang/invoke/VarHandle" ∧
  (parseMethodDescriptor (mm_yn k').desc).map (fun d => d.parameters.length) = some n ∧ mm_ml k' ≤ 60 ∧ mm_is k'
theorem mm_callB {p : Program} {e : Env} {R : Room} {s : State} {m : MethodId} {args : Array Value} {meth : Method} {c : Code} {D : va_G} {A : Nat → Prop} {cI cL : ClassId} {φ : List Nat} {k' idx n : Nat} (hc : mm_Cx l k (d + 1) X φ p e R s m args meth c D A cI cL)
    (hm : mm_okm k' n) (hl : Cond.methodLink (mm_yn k).cls idx (mm_yn k') ∈ mm_tb) : CallB R s args (mm_yn k).cls idx (mm_yn k') (mm_cb k') (mm_ml k') (mm_rt k') mm_tb (mm_rm d mc1 ms1) mc1 ms1 n := by
  obtain ⟨a1, a2, a3, a4, a5, a6, a7, a8, a9, a10, a11, a12, a13⟩ := hc
  obtain ⟨m1, m2, m3, m4, m5, m6, -⟩ := hm
  refine ⟨rfl, rfl, by rw [mm_rm_f]; omega, by rw [mm_rm_l]; exact mm_ar m6 a12, fun w h a' U hU => mm_wm (List.mem_filter.mp h).2 hU (a7 w h), m1, a7 _ m1, a7 _ m2, ⟨m3, m4⟩, fun sig hs => ?_, a7 _ hl⟩
  rw [hs] at m5
  exact (Option.some.inj m5).symm
theorem mm_pre {p : Program} {e : Env} {R : Room} {s : State} {m : MethodId} {args : Array Value} {meth : Method} {c : Code} {D : va_G} {A : Nat → Prop} {cI cL : ClassId} {φ : List Nat} {ws : va_W} {avr : List Value} {H : Heap} {locs : List Loc} (hc : mm_Cx l k d X φ p e R s m args meth c D A cI cL)
    (hP : va_P D mm_cl ws H) (hD : va_D A ws) (hS : va_S A s.heap H locs) : PreS s H (mm_P X φ D A cI cL ws avr) avr := by
  obtain ⟨a1, a2, a3, a4, a5, a6, a7, a8, a9, a10, a11⟩ := hc
  refine ⟨mm_P.blind, fun U hU hWm => ⟨rfl, a8.moved hWm.alike, by rw [hU]; exact hP, hD, fun q hq => a9 q (Nat.le_trans hS.1 (by rw [← hU]; exact hq)), a10.move hS hWm.alike hU⟩⟩
theorem mm_callS {k' idx n : Nat} {as S0 : List Value} {v : Option Value} (hd : decode (mm_cb k) pc = .ok (.invokestatic idx, 3)) (hm : mm_okm k' n) (hl : Cond.methodLink (mm_yn k).cls idx (mm_yn k') ∈ mm_tb) (hs : Cond.static (mm_yn k') ∈ mm_tb)
    (hst : S0 = as.reverse ++ S) (hn : as.length = n) (hcat : (as.map fun v => v.category).sum ≤ mm_ml k') (hw : (S.map fun v => v.category).sum ≤ 8)
    (hcall : mm_Call l X k' d as σ mc1 ms1 (.inl v) σ1) (hr : mm_Run l X k (d + 1) (pc + 3) L (v.toList ++ S) σ1 mc ms o σ') : mm_Run l X k (d + 1) pc L S0 σ (mc1 + mc) (ms1 + ms) o σ' := by
  intro p e R s m args below meth c D A cI cL φ hc H locs cells slots ρ ws ls st hW hP hD hS hL hV h1 h2
  subst hst
  obtain ⟨ar, rest, rfl, va1, va2⟩ := hV.split
  have hva := va1.rev
  rw [List.reverse_reverse] at hva
  have hM := mm_met (D := D) (A := A) hm.2.2.2.2.2.2 hcat hc.2.2.2.2.2.2.2.2.2.2.2.2.2.2 hcall hva hW
  refine mm_goes (va_runS ⟨hc.1, hc.2.1, hc.2.2.1, hc.2.2.2.2.2.1, hc.2.2.2.2.2.2.1⟩ hM ⟨mm_callB hc hm hl, hc.2.2.2.2.2.2.1 _ hs⟩ (mm_pre hc hP hD hS) rfl (by rw [hva.len, hn]) hL.1.1 (by rw [List.reverse_reverse]) (by rw [va2.cats]; simpa using hw) hd ⟨by omega, by omega⟩) hS ?_
  intro δ ws' H1 locs1 vr q1 q2 q3 q4 q5
  refine mm_Wmono (fun t h => h.ext (δ := δ) (by omega) (by omega)) (hr hc q1 q2 q3 q4 hL.mono ?_ (by omega) (by omega))
  cases v <;> cases vr <;> first | exact q5.elim | exact va2.mono | exact ⟨q5, va2.mono⟩
theorem mm_callV {k' idx n p0 ci : Nat} {rs : List Value} {as S0 : List Value} {v : Option Value} (hd : decode (mm_cb k) pc = .ok (.invokevirtual idx, 3)) (hm : mm_okm k' n) (hl : Cond.methodLink (mm_yn k).cls idx (mm_yn k') ∈ mm_tb) (hi : Cond.instanceMethod (mm_yn k') ∈ mm_tb)
    (hse : Cond.selects (mm_yn k').cls (mm_yn k') (mm_yn k') ∈ mm_tb) (hkd : mm_kd σ.1 p0 = (2, ci, rs)) (hci : ∃ T N, mm_cl[ci]? = some ((mm_yn k').cls, T, N))
    (hst : S0 = as.reverse ++ .ref p0 :: S) (hn : as.length = n) (hcat : ((Value.ref p0 :: as).map fun v => v.category).sum ≤ mm_ml k') (hw : (S.map fun v => v.category).sum ≤ 8)
    (hcall : mm_Call l X k' d (.ref p0 :: as) σ mc1 ms1 (.inl v) σ1) (hr : mm_Run l X k (d + 1) (pc + 3) L (v.toList ++ S) σ1 mc ms o σ') : mm_Run l X k (d + 1) pc L S0 σ (mc1 + mc) (ms1 + ms) o σ' := by
  intro p e R s m args below meth c D A cI cL φ hc H locs cells slots ρ ws ls st hW hP hD hS hL hV h1 h2
  subst hst
  obtain ⟨ar, rest, rfl, va1, va2⟩ := hV.split
  obtain ⟨_, rest, rfl, hb0, va2n⟩ := va2.cons
  obtain ⟨b, hb, rfl⟩ := id hb0
  have hva := va1.rev
  rw [List.reverse_reverse] at hva
  obtain ⟨E, g1, fs, e1, -⟩ := hW.get hkd (by simp) hb
  subst e1
  obtain ⟨T, N, hT⟩ := hci
  have hM := mm_met (D := D) (A := A) hm.2.2.2.2.2.2 hcat hc.2.2.2.2.2.2.2.2.2.2.2.2.2.2 hcall (avr := .ref b :: ar.reverse) ⟨hb0, hva⟩ hW
  have hpre := mm_pre (avr := .ref b :: ar.reverse) hc hP hD hS
  refine mm_goes (va_runV (C := (mm_yn k').cls) (b := b) ⟨hc.1, hc.2.1, hc.2.2.1, hc.2.2.2.2.2.1, hc.2.2.2.2.2.2.1⟩ hM ⟨mm_callB hc hm hl, hc.2.2.2.2.2.2.1 _ hi, hc.2.2.2.2.2.2.1 _ hse⟩ ⟨hpre.1, ?_, hpre.2⟩ rfl (by rw [hva.len, hn]) hL.1.1 (by rw [List.reverse_reverse]) (by rw [va2n.cats]; simpa using hw) hd ⟨by omega, by omega⟩) hS ?_
  · exact va_recv hc.2.2.2.2.2.2.2.1 hP hT g1
  intro δ ws' H1 locs1 vr q1 q2 q3 q4 q5
  refine mm_Wmono (fun t h => h.ext (δ := δ) (by omega) (by omega)) (hr hc q1 q2 q3 q4 hL.mono ?_ (by omega) (by omega))
  cases v <;> cases vr <;> first | exact q5.elim | exact va2n.mono | exact ⟨q5, va2n.mono⟩
theorem mm_callI {k' idx n p0 : Nat} {as S0 : List Value} (hd : decode (mm_cb k) pc = .ok (.invokespecial idx, 3)) (hm : mm_okm k' n) (hl : Cond.methodLink (mm_yn k).cls idx (mm_yn k') ∈ mm_tb) (hi : Cond.instanceMethod (mm_yn k') ∈ mm_tb)
    (hy : (mm_yn k').name = "<init>") (hrt : mm_rt k' = none) (hst : S0 = as.reverse ++ .ref p0 :: S) (hn : as.length = n) (hcat : ((Value.ref p0 :: as).map fun v => v.category).sum ≤ mm_ml k') (hw : (S.map fun v => v.category).sum ≤ 8)
    (hcall : mm_Call l X k' d (.ref p0 :: as) σ mc1 ms1 (.inl none) σ1) (hr : mm_Run l X k (d + 1) (pc + 3) L S σ1 mc ms o σ') : mm_Run l X k (d + 1) pc L S0 σ (mc1 + mc) (ms1 + ms) o σ' := by
  intro p e R s m args below meth c D A cI cL φ hc H locs cells slots ρ ws ls st hW hP hD hS hL hV h1 h2
  subst hst
  obtain ⟨ar, rest, rfl, va1, va2⟩ := hV.split
  obtain ⟨_, rest, rfl, hb0, va2n⟩ := va2.cons
  obtain ⟨b, hb, rfl⟩ := id hb0
  have hva := va1.rev
  rw [List.reverse_reverse] at hva
  have hM := mm_met (D := D) (A := A) hm.2.2.2.2.2.2 hcat hc.2.2.2.2.2.2.2.2.2.2.2.2.2.2 hcall (avr := .ref b :: ar.reverse) ⟨hb0, hva⟩ hW
  have hcb := mm_callB (mc1 := mc1) (ms1 := ms1) hc hm hl
  rw [hrt] at hcb
  refine mm_goes (va_runI (b := b) ⟨hc.1, hc.2.1, hc.2.2.1, hc.2.2.2.2.2.1, hc.2.2.2.2.2.2.1⟩ hM ⟨hcb, hy, hc.2.2.2.2.2.2.1 _ hi⟩ (mm_pre hc hP hD hS) rfl (by rw [hva.len, hn]) hL.1.1 (by rw [List.reverse_reverse]) (by rw [va2n.cats]; simpa using hw) hd ⟨by omega, by omega⟩) hS ?_
  intro δ ws' H1 locs1 vr q1 q2 q3 q4 q5
  refine mm_Wmono (fun t h => h.ext (δ := δ) (by omega) (by omega)) (hr hc q1 q2 q3 q4 hL.mono ?_ (by omega) (by omega))
  cases vr <;> first | exact q5.elim | exact va2n.mono
/-! private members of a nest mate -/
theorem mm_callBN {p : Program} {e : Env} {R : Room} {s : State} {m : MethodId} {args : Array Value} {meth : Method} {c : Code} {D : va_G} {A : Nat → Prop} {cI cL : ClassId} {φ : List Nat} {k' idx n : Nat} {host : String} (hc : mm_Cx l k (d + 1) X φ p e R s m args meth c D A cI cL)
    (hm : mm_okm k' n) (hl : Cond.methodLinkNest (mm_yn k).cls idx (mm_yn k') host ∈ mm_tb) : va_CN R s args (mm_yn k).cls idx (mm_yn k') host (mm_cb k') (mm_ml k') (mm_rt k') mm_tb (mm_rm d mc1 ms1) mc1 ms1 n := by
  obtain ⟨a1, a2, a3, a4, a5, a6, a7, a8, a9, a10, a11, a12, a13⟩ := hc
  obtain ⟨m1, m2, m3, m4, m5, m6, -⟩ := hm
  refine ⟨⟨rfl, rfl, by rw [mm_rm_f]; omega, by rw [mm_rm_l]; exact mm_ar m6 a12, fun w h a' U hU => mm_wm (List.mem_filter.mp h).2 hU (a7 w h), m1⟩, a7 _ m1, a7 _ m2, ⟨m3, m4⟩, fun sig hs => ?_, a7 _ hl⟩
  rw [hs] at m5
  exact (Option.some.inj m5).symm
theorem mm_callSN {k' idx n : Nat} {as S0 : List Value} {v : Option Value} {host : String} (hd : decode (mm_cb k) pc = .ok (.invokestatic idx, 3)) (hm : mm_okm k' n) (hl : Cond.methodLinkNest (mm_yn k).cls idx (mm_yn k') host ∈ mm_tb) (hs : Cond.static (mm_yn k') ∈ mm_tb)
    (hst : S0 = as.reverse ++ S) (hn : as.length = n) (hcat : (as.map fun v => v.category).sum ≤ mm_ml k') (hw : (S.map fun v => v.category).sum ≤ 8)
    (hcall : mm_Call l X k' d as σ mc1 ms1 (.inl v) σ1) (hr : mm_Run l X k (d + 1) (pc + 3) L (v.toList ++ S) σ1 mc ms o σ') : mm_Run l X k (d + 1) pc L S0 σ (mc1 + mc) (ms1 + ms) o σ' := by
  intro p e R s m args below meth c D A cI cL φ hc H locs cells slots ρ ws ls st hW hP hD hS hL hV h1 h2
  subst hst
  obtain ⟨ar, rest, rfl, va1, va2⟩ := hV.split
  have hva := va1.rev
  rw [List.reverse_reverse] at hva
  have hM := mm_met (D := D) (A := A) hm.2.2.2.2.2.2 hcat hc.2.2.2.2.2.2.2.2.2.2.2.2.2.2 hcall hva hW
  refine mm_goes (va_runSN ⟨hc.1, hc.2.1, hc.2.2.1, hc.2.2.2.2.2.1, hc.2.2.2.2.2.2.1⟩ hM ⟨mm_callBN hc hm hl, hc.2.2.2.2.2.2.1 _ hs, trivial⟩ (mm_pre hc hP hD hS) rfl (by rw [hva.len, hn]) hL.1.1 (by rw [List.reverse_reverse]) (by rw [va2.cats]; simpa using hw) hd ⟨by omega, by omega⟩) hS ?_
  intro δ ws' H1 locs1 vr q1 q2 q3 q4 q5
  refine mm_Wmono (fun t h => h.ext (δ := δ) (by omega) (by omega)) (hr hc q1 q2 q3 q4 hL.mono ?_ (by omega) (by omega))
  cases v <;> cases vr <;> first | exact q5.elim | exact va2.mono | exact ⟨q5, va2.mono⟩
end MMC
