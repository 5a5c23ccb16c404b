/-! ===== calls that throw: handed on; caught ===== -/
section MMH
variable {l : Launch} {X : Nat × (Nat → Int32)} {k d pc : Nat} {L S : List Value} {σ σ1 σ' : mm_S} {mc ms mc1 ms1 : Nat} {o : mm_O}
def mm_PreT (R : Room) (mc ms : Nat) (Pc : Array Value → State → Prop) : Pt → Array Value → Prop := fun B a => B.cells + mc ≤ R.cells ∧ B.slots + ms ≤ R.slots ∧ Pc a B.U
def mm_PostT (Qc : Array Value → State → Outcome → State → Prop) (mc ms : Nat) (free : Addr → Prop) : Pt → Array Value → Addr → Pt → Prop := fun B a x C =>
  ∃ (g : JFrame) (mk : MethodId) (t : State) (Lc : List Loc), C.U.heap = t.heap ∧ C.U.vm = t.vm ∧ Qc a (B.U.calling g mk a) (.threw x) t ∧ C.locs = B.locs ++ Lc ∧ (∀ q ∈ Lc, free q.base) ∧ C.cells = B.cells + mc ∧ C.slots = B.slots + ms
theorem mm_backT {p : Program} {e : Env} {R : Room} {s : State} {m : MethodId} {args : Array Value} {below : List Frame} {meth : Method} {c : Code} {D : va_G} {A : Nat → Prop} {cI cL : ClassId} {φ ρ : List Nat} {k' n : Nat} {as avr : List Value} {ws : va_W} {E : String}
    (hc : mm_Cx l k (d + 1) X φ p e R s m args meth c D A cI cL) (hm : mm_okm k' n) (hcat : (as.map fun v => v.category).sum ≤ mm_ml k') (hcall : mm_Call l X k' d as σ mc1 ms1 (.inr E) σ1) (hv : mm_Vs φ ρ as avr) (hW : mm_W φ ρ cI cL σ ws) :
    BackT l R p e below s args (mm_yn k') 3 8 (mm_PreT R mc1 ms1 (mm_P X φ D A cI cL ws avr)) (mm_PostT (mm_QO φ ρ D A cI cL (.inr E) σ1) mc1 ms1 A) := by
  obtain ⟨m1, m2, m3, m4, m5, m6, m7⟩ := hm
  obtain ⟨a1, a2, a3, a4, a5, a6, a7, a8, a9, a10, a11, a12, a13, a14, a15⟩ := hc
  have hM := mm_free (D := D) (A := A) m7 hcat a15 hcall hv hW
  have hwd : ∀ w ∈ mm_tb, ∀ (a' : Array Value) (U : State), s.WarmedH U.vm → w.before a' U = true := fun w h a' U hU => mm_wm (List.mem_filter.mp h).2 hU (a7 w h)
  refine BackT.of_free (bytes := mm_cb k') (maxL := mm_ml k') (ret := mm_rt k') (E := fun _ _ _ _ Lc k n => k = mc1 ∧ n = ms1 ∧ ∀ q ∈ Lc, A q.base) hM (by show (mm_rm d mc1 ms1).frames + 1 ≤ _; rw [mm_rm_f]; omega) (by show 8 + (mm_ml k' + 11) + (mm_rm d mc1 ms1).locals ≤ _; rw [mm_rm_l]; exact mm_ar m6 a12) ?_ ?_ (fun _ _ _ _ _ _ _ _ _ => trivial) ?_ ?_
  · intro m meth c B a Y hp
    exact ⟨atoms_intro fun w hw => hwd w hw _ _ Y.warmed, hwd _ m1 _ _ Y.warmed, hwd _ m2 _ _ Y.warmed, hp.1, hp.2.1⟩
  · intro m meth c B a g mk Y hp
    exact mm_P.blind _ _ _ _ hp.2.2
  · intro a st oc t ⟨q, Lc, z1, z2, z3⟩
    refine ⟨Lc, mc1, ms1, ⟨?_, z1, z2⟩, rfl, rfl, z3⟩
    obtain ⟨δ, ws', -, -, -, -, x, ce, hx, -⟩ := q
    exact ⟨x, hx⟩
  · intro m meth c B a g mk v t Lc kc n Y hp hq hF ⟨e1, e2, e3⟩
    subst e1; subst e2
    exact ⟨g, mk, t, Lc, rfl, rfl, hq.1, rfl, e3, rfl, rfl⟩
/-- the state behind a call that has thrown -/
def mm_Thrown (l : Launch) (X : Nat × (Nat → Int32)) (k d pc : Nat) (L S : List Value) (σ : mm_S) (mc ms : Nat) (E : String) (σ1 : mm_S) : Prop :=
  ∀ ⦃p : Program⦄ ⦃e : Env⦄ ⦃R : Room⦄ ⦃s : State⦄ ⦃m : MethodId⦄ ⦃args : Array Value⦄ ⦃below : List Frame⦄ ⦃meth : Method⦄ ⦃c : Code⦄ ⦃D : va_G⦄ ⦃A : Nat → Prop⦄ ⦃cI cL : ClassId⦄ ⦃φ : List Nat⦄,
    mm_Cx l k d X φ p e R s m args meth c D A cI cL →
    ∀ ⦃H : Heap⦄ ⦃locs : List Loc⦄ ⦃cells slots : Nat⦄ ⦃ρ : List Nat⦄ ⦃ws : va_W⦄ ⦃ls : Array Slot⦄ ⦃st : List Value⦄,
      mm_W φ ρ cI cL σ ws → va_P D mm_cl ws H → va_D A ws → va_S A s.heap H locs → mm_L φ ρ L ls (mm_ml k) → mm_Vs φ ρ S st → cells + mc ≤ R.cells → slots + ms ≤ R.slots →
      ∀ T : State, T.heap = H → Stand p l e R s m args below meth c T locs cells slots →
        ∃ (x : Addr) (T' : State) (locs' : List Loc) (δ : List Nat) (ws' : va_W) (ce : Cell) (rest : List Value), Stand p l e R s m args below meth c T' locs' (cells + mc) (slots + ms) ∧ mm_W φ (ρ ++ δ) cI cL σ1 ws' ∧ va_P D mm_cl ws' T'.heap ∧ va_D A ws' ∧ va_S A s.heap T'.heap locs' ∧
          T'.heap[x]? = some ce ∧ ce.vm = .none ∧ s.vm.findClass E = some ce.cls ∧ Steps p.tables e below (T.setTop (F0 m pc ls st)) ((T'.setTop (F0 m pc ls rest)).pushFrame (.throwing x))
theorem mm_thrown_out {E : String} (h : mm_Thrown l X k d pc L S σ mc ms E σ1) (hh : mm_ht k = []) : mm_Run l X k d pc L S σ mc ms (.inr E) σ1 := by
  intro p e R s m args below meth c D A cI cL φ hc H locs cells slots ρ ws ls st hW hP hD hS hL hV h1 h2 T hT Y
  obtain ⟨x, T', locs', δ, ws', ce, rest, Y', q1, q2, q3, q4, q5, q6, q7, q8⟩ := h hc hW hP hD hS hL hV h1 h2 T hT Y
  have htab : c.exceptionTable.toList = [] := by
    have := hc.2.2.2.2.2.2.2.2.2.2.2.2.2.1
    rw [hh] at this
    simpa using this
  obtain ⟨z1, z2, z3, z4, z5⟩ := Y'.leaveThrown x (g := F0 m pc ls rest) rfl rfl rfl (by rw [htab]; intro y hy; cases hy) hc.2.2.2.2.1
  exact ⟨_, q8.trans z1, .threw x, δ, ws', locs', z2, z3, q1, q2, q3, q4, z4, z5, x, ce, rfl, q5, q6, q7⟩
theorem mm_callST {k' idx n : Nat} {as S0 : List Value} {E : String} (hd : decode (mm_cb k) pc = .ok (.invokestatic idx, 3)) (hm : mm_okm k' n) (hl : Cond.methodLink (mm_yn k).cls idx (mm_yn k') ∈ mm_tb) (hs : Cond.static (mm_yn k') ∈ mm_tb)
    (hst : S0 = as.reverse ++ S) (hn : as.length = n) (hcat : (as.map fun v => v.category).sum ≤ mm_ml k') (hw : (S.map fun v => v.category).sum ≤ 8)
    (hcall : mm_Call l X k' d as σ mc ms (.inr E) σ1) : mm_Thrown l X k (d + 1) pc L S0 σ mc ms E σ1 := by
  intro p e R s m args below meth c D A cI cL φ hc H locs cells slots ρ ws ls st hW hP hD hS hL hV h1 h2 T hT Y
  subst hst
  obtain ⟨ar, rest, rfl, va1, va2⟩ := hV.split
  have hva := va1.rev
  rw [List.reverse_reverse] at hva
  have hK := mm_backT (below := below) hc hm hcat hcall hva hW
  have hts := hc.2.2.2.2.2.2.1
  obtain ⟨m1, m2, m3, m4, m5, m6, m7⟩ := id hm
  obtain ⟨mk, hnamed⟩ := Cond.code_named (hts _ m1)
  obtain ⟨methM, cM, hmethM, -, -, -, -, -, -, hsigM⟩ := Cond.code_spec hnamed (hts _ m1)
  have hpre := mm_pre (avr := ar.reverse) hc hP hD hS
  obtain ⟨x, vm₁, B, hW₁, Y', ⟨g', mk', t, Lc, b1, b2, ⟨δ, ws', w1, w2, w3, w4, x', ce, w5, w6, w7, w8⟩, b3, b4, b5, b6⟩, hst⟩ :=
    Y.staticThrows hc.1 hc.2.2.2.2.2.1 (hts _ hl) (hts _ hs) (hts _ m2) hnamed hmethM hsigM ⟨m3, m4⟩ hK (g := F0 m pc ls (ar ++ rest)) rfl (hL.1.1.trans hc.2.2.1.symm) (Steps.refl _) (argsL := ar.reverse) (rest := rest)
      (fun sig hsig => by rw [hva.len, hn]; rw [hsig] at m5; exact (Option.some.inj m5).symm) (by rw [List.reverse_reverse]) (by show 2 * 0 + _ ≤ 8; rw [va2.cats]; simpa using hw) (by rw [hc.2.1]; exact hd)
      (fun vm₁ hW₁ => ⟨h1, h2, hpre.2 (T.setVm vm₁) hT hW₁⟩)
  cases w5
  obtain ⟨w9, w10⟩ := w4
  have hTh : ((T.setVm vm₁).calling g' mk' ar.reverse.toArray).heap = H := hT
  have w8' : s.vm.findClass E = some ce.cls := by
    have : ((T.setVm vm₁).calling g' mk' ar.reverse.toArray).vm.findClass E = some ce.cls := w8
    rw [show ((T.setVm vm₁).calling g' mk' ar.reverse.toArray).vm = vm₁ from rfl] at this
    rw [← hW₁.alike.findClass]; exact this
  simp only [Pt.U, Pt.locs, Pt.cells, Pt.slots] at b1 b2 b3 b5 b6 Y' hst w9 w10
  rw [hTh] at w9 w10
  refine ⟨x, B.1, locs ++ Lc, δ, ws', ce, rest, ?_, w1, by rw [b1]; exact w2, w3, ?_, by rw [b1]; exact w6, w7, w8', hst⟩
  · rw [← b3, ← b5, ← b6]; exact Y'
  · exact ⟨Nat.le_trans hS.1 (by rw [b1]; exact w9), fun q q1 q2 => by rw [b1, w10 q (Nat.lt_of_lt_of_le q1 hS.1) q2]; exact hS.2.1 q q1 q2, fun q hq => by
      rcases List.mem_append.mp hq with hq | hq
      · exact hS.2.2 q hq
      · exact b4 q hq⟩
theorem mm_callVT {k' idx n p0 ci : Nat} {rs : List Value} {as S0 : List Value} {E : String} (hd : decode (mm_cb k) pc = .ok (.invokevirtual idx, 3)) (hm : mm_okm k' n) (hl : Cond.methodLink (mm_yn k).cls idx (mm_yn k') ∈ mm_tb) (hi : Cond.instanceMethod (mm_yn k') ∈ mm_tb)
    (hse : Cond.selects (mm_yn k').cls (mm_yn k') (mm_yn k') ∈ mm_tb) (hkd : mm_kd σ.1 p0 = (2, ci, rs)) (hci : ∃ T N, mm_cl[ci]? = some ((mm_yn k').cls, T, N))
    (hst : S0 = as.reverse ++ .ref p0 :: S) (hn : as.length = n) (hcat : ((Value.ref p0 :: as).map fun v => v.category).sum ≤ mm_ml k') (hw : (S.map fun v => v.category).sum ≤ 8)
    (hcall : mm_Call l X k' d (.ref p0 :: as) σ mc ms (.inr E) σ1) : mm_Thrown l X k (d + 1) pc L S0 σ mc ms E σ1 := by
  intro p e R s m args below meth c D A cI cL φ hc H locs cells slots ρ ws ls st hW hP hD hS hL hV h1 h2 T hT Y
  subst hst
  obtain ⟨ar, rest0, rfl, va1, va2⟩ := hV.split
  obtain ⟨_, rest, rfl, hb0, va2n⟩ := va2.cons
  obtain ⟨b, hb, rfl⟩ := id hb0
  have hva := va1.rev
  rw [List.reverse_reverse] at hva
  obtain ⟨Ec, g1, fs, e1, -⟩ := hW.get hkd (by simp) hb
  subst e1
  obtain ⟨TT, N, hTT⟩ := hci
  obtain ⟨cellB, hcB, hoB, hclB⟩ := va_recv hc.2.2.2.2.2.2.2.1 hP hTT g1
  have hK := mm_backT (below := below) hc hm hcat hcall (avr := .ref b :: ar.reverse) ⟨hb0, hva⟩ hW
  have hts := hc.2.2.2.2.2.2.1
  obtain ⟨m1, m2, m3, m4, m5, m6, m7⟩ := id hm
  have hpre := mm_pre (avr := .ref b :: ar.reverse) hc hP hD hS
  obtain ⟨mk, methM, hnamed, hmethM, hstM, habM⟩ := Cond.instanceMethod_spec (hts _ hi)
  obtain ⟨methM', cM, hmethM', -, -, -, -, -, -, hsigM⟩ := Cond.code_spec hnamed (hts _ m1)
  cases hmethM.symm.trans hmethM'
  obtain ⟨c2, r2, m2', q1, q2, q3, q4, kP, hkP, hkPi⟩ := Cond.selects_spec (hts _ hse)
  cases hclB.symm.trans q1
  cases (State.methodFound?_of_named hnamed ⟨m3, m4⟩).symm.trans q2
  cases hnamed.symm.trans q3
  have hselP : selectMethod e.platform s.vm cellB.cls mk = .method mk := by rw [Launch.admits_selectMethod Y.admits]; exact q4
  have hlen : ar.reverse.length = methM.sig.parameters.length := by
    rw [hva.len, hn]; rw [hsigM] at m5; exact (Option.some.inj m5).symm
  obtain ⟨vm₁, X₁, hstep₁⟩ := Y.invokevirtual hc.1 hc.2.2.2.2.2.1 (hts _ hl) hnamed hmethM hstM hkP hkPi ⟨m3, m4⟩ (a := b) (cell := cellB) (by rw [hT]; exact hcB)
    (fun z h => by rw [h] at hoB; cases hoB) hselP hmethM habM hkP hkPi (g := F0 m pc ls (ar ++ .ref b :: rest)) rfl (argsL := ar.reverse) (rest := rest) hlen (by rw [List.reverse_reverse]) (by rw [hc.2.1]; exact hd)
  obtain ⟨x, B, Y', ⟨g', mk', t, Lc, b1, b2, ⟨δ, ws', w1, w2, w3, w4, x', ce, w5, w6, w7, w8⟩, b3, b4, b5, b6⟩, hsteps⟩ :=
    hK m meth c ⟨T.setVm vm₁, locs, cells, slots⟩ (F0 m pc ls rest) (.invokevirtual idx) mk (Value.ref b :: ar.reverse).toArray X₁ rfl (hL.1.1.trans hc.2.2.1.symm) (by rw [hc.2.1]; exact hd) (by show 2 * 0 + _ ≤ 8; rw [va2n.cats]; simpa using hw) (X₁.named hnamed) ⟨h1, h2, hpre.2 (T.setVm vm₁) hT X₁.warmed⟩
  cases w5
  obtain ⟨w9, w10⟩ := w4
  have hTh : ((T.setVm vm₁).calling g' mk' (Value.ref b :: ar.reverse).toArray).heap = H := hT
  have w8' : s.vm.findClass E = some ce.cls := by
    have : ((T.setVm vm₁).calling g' mk' (Value.ref b :: ar.reverse).toArray).vm.findClass E = some ce.cls := w8
    rw [show ((T.setVm vm₁).calling g' mk' (Value.ref b :: ar.reverse).toArray).vm = vm₁ from rfl] at this
    rw [← X₁.warmed.alike.findClass]; exact this
  simp only [Pt.U, Pt.locs, Pt.cells, Pt.slots] at b1 b2 b3 b5 b6 Y' hsteps w9 w10
  rw [hTh] at w9 w10
  refine ⟨x, B.1, locs ++ Lc, δ, ws', ce, rest, ?_, w1, by rw [b1]; exact w2, w3, ?_, by rw [b1]; exact w6, w7, w8', ?_⟩
  · rw [← b3, ← b5, ← b6]; exact Y'
  · exact ⟨Nat.le_trans hS.1 (by rw [b1]; exact w9), fun q q1 q2 => by rw [b1, w10 q (Nat.lt_of_lt_of_le q1 hS.1) q2]; exact hS.2.1 q q1 q2, fun q hq => by
      rcases List.mem_append.mp hq with hq | hq
      · exact hS.2.2 q hq
      · exact b4 q hq⟩
  · exact hstep₁ _ fun acts => by rw [doInvoke_state]; exact hsteps
theorem mm_caught {i : Nat} {pre rest : List (Nat × Nat × Nat × Nat)} {sp ep hp ct : Nat} {mc2 ms2 : Nat} (h : mm_Thrown l X k d pc L S σ mc ms (mm_ex i) σ1) (hi : i < 3) (hsplit : mm_ht k = pre ++ (sp, ep, hp, ct) :: rest)
    (hpass : ∀ y ∈ pre, y.2.2.2 ≠ 0 ∧ ∃ j, j < 3 ∧ i ≠ j ∧ Cond.classLink (mm_yn k).cls y.2.2.2 (mm_ex j) ∈ mm_tb) (hx : sp ≤ pc ∧ pc < ep) (h0 : ct ≠ 0) (hlink : Cond.classLink (mm_yn k).cls ct (mm_ex i) ∈ mm_tb) (hcast : Cond.castable (mm_ex i) (mm_ex i) ∈ mm_tb)
    (hr : mm_Run l X k d hp L [.null] σ1 mc2 ms2 o σ') : mm_Run l X k d pc L S σ (mc + mc2) (ms + ms2) o σ' := by
  intro p e R s m args below meth c D A cI cL φ hc H locs cells slots ρ ws ls st hW hP hD hS hL hV h1 h2 T hT Y
  obtain ⟨x, T', locs', δ, ws', ce, rest', Y', q1, q2, q3, q4, q5, q6, q7, q8⟩ := h hc hW hP hD hS hL hV (by omega) (by omega) T hT Y
  have hts := hc.2.2.2.2.2.2.1
  have hown := hc.2.2.2.2.2.1
  have hpl : e.platform.magicAccessors = ({} : Platform).magicAccessors := by rw [Y.admits.platform]
  have htab := hc.2.2.2.2.2.2.2.2.2.2.2.2.2.1
  rw [hsplit] at htab
  obtain ⟨pre', l2, t1, t2, t3⟩ := List.map_eq_append_iff.mp htab
  obtain ⟨x0, rest0, t4, t5, t6⟩ := List.map_eq_cons_iff.mp t3
  subst t4
  have hself : s.vm.assignable ce.cls ce.cls = true := by
    obtain ⟨c1, c2, z1, z2, z3⟩ := Cond.castable_spec (hts _ hcast)
    cases q7.symm.trans z1
    cases q7.symm.trans z2
    exact z3
  have hx0 : x0.startPc = sp ∧ x0.endPc = ep ∧ x0.handlerPc = hp ∧ x0.catchType = ct := by
    simp only [Prod.mk.injEq] at t5
    exact t5
  obtain ⟨z1, z2⟩ := Y'.catches_of_link hown (x := x0) (by rw [hx0.2.2.2]; exact h0) (name := mm_ex i) (by rw [hx0.2.2.2]; exact hts _ hlink) q7 hself
  have hpa : ∀ y ∈ pre', RowPassed e.platform s m.cls (F0 m pc ls rest').pc ce.cls y := by
    intro y hy
    obtain ⟨y1, j, y2, y3, y4⟩ := hpass (y.startPc, y.endPc, y.handlerPc, y.catchType) (by rw [← t2]; exact List.mem_map_of_mem hy)
    obtain ⟨c', hc', hcl⟩ := Cond.classLink_spec hown (hts _ y4) e.platform hpl
    obtain ⟨cA, cB, n1, n2, n3⟩ := hc.2.2.2.2.2.2.2.2.2.1.2.2.2.2.2.1 i j hi y2 y3
    cases q7.symm.trans n1
    cases hc'.symm.trans n2
    exact Or.inr ⟨y1, c', hcl, n3⟩
  obtain ⟨vm', Y2, st2⟩ := Y'.thenCaughtThrough x (g := F0 m pc ls rest') rfl q8 q5 (by rw [q6]; rfl) z2 pre' x0 rest0 t1 hpa (by simp [covers, hx0.1, hx0.2.1, hx.1, hx.2]) z1
  have hgo := hr hc (H := T'.heap) (below := below) (cells := cells + mc) (slots := slots + ms) (st := [.ref x]) q1 q2 q3 q4 hL.mono ⟨⟨x, rfl⟩, trivial⟩ (by omega) (by omega)
  obtain ⟨tt, y1, y2⟩ := hgo (T'.setVm vm') rfl Y2
  refine ⟨tt, st2.trans ?_, mm_Q.ext (δ := δ) y2 (by omega) (by omega)⟩
  rw [hx0.2.2.1]
  exact y1
end MMH
