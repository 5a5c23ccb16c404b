/-! ===== exceptions: thrown, handed on, caught (launches without stack traces) ===== -/
theorem mm_isRef {args : Array Value} {s : State} {C n d : String} {A : Nat → Prop} (h : va_Zq C n d A s s.heap) : (Cond.isRef (.static C n d)).before args s = true := by
  have key : ∀ v : Value, (v = .null ∨ ∃ t, v = .ref t) → va_Z C n d v A s s.heap → (Cond.isRef (.static C n d)).before args s = true := by
    intro v hv hz
    obtain ⟨cf, kf, fi, f, a, cell, h1, h2, h3, h4, h5, h6, h7, h8⟩ := hz
    have hev : (Term.static C n d).eval args s none [] s = some v := by
      simp [Term.eval, State.fieldNamed?, h1, h2, h4, h5, h6, h7]
    rcases hv with rfl | ⟨t, rfl⟩ <;> simp [Cond.before, Cond.holds, Cond.value, hev]
  rcases h with h | ⟨t, h⟩
  · exact key _ (Or.inl rfl) h
  · exact key _ (Or.inr ⟨t, rfl⟩) h
/-- the walk goes on as if it had begun here -/
theorem mm_rebase {p : Program} {l : Launch} {e : Env} {R : Room} {s : State} {m : MethodId} {args : Array Value} {below : List Frame} {meth : Method} {c : Code} {T : State} {locs : List Loc} {cells slots n1 n2 : Nat}
    (Y : Stand p l e R s m args below meth c T locs cells slots) (h1 : cells + n1 ≤ R.cells) (h2 : slots + n2 ≤ R.slots) :
    Stand p l e { R with cells := n1, slots := n2 } (T.setFrames (.invoking m args :: below)) m args below meth c T [] 0 0 := by
  obtain ⟨g₀, hfr⟩ := Y.frames_eq
  have hcur : T.cur < T.threads.size := State.cur_lt_of_frames hfr
  have hF : (T.setFrames (.invoking m args :: below)).frames = .invoking m args :: below := State.frames_setFrames _ hcur
  have hlim : e.platform.stackLimits (T.setFrames (.invoking m args :: below)).me = e.platform.stackLimits s.me := by rw [State.stackLimits_setFrames]; exact Y.limits
  have hbyt : (T.setFrames (.invoking m args :: below)).me.stackBytes = s.me.stackBytes := by rw [State.stackBytes_setFrames]; exact Y.bytes
  have hloc : (T.setFrames (.invoking m args :: below)).localsInUse = s.localsInUse := by
    rw [State.localsInUse_invoking hF (show (T.setFrames _).vm.method? m = some meth from Y.method') Y.code, State.localsInUse_invoking Y.frames Y.method Y.code]
  obtain ⟨th, hth, hthf⟩ := State.frames_cons hfr
  refine ⟨Y.admits, Y.cas, Y.clock, hF, ?_, ?_, Y.method', Y.code, Y.here, Y.tail, State.WarmedH.refl _, ?_, ?_, ?_⟩
  · have hr := Y.room
    have hcA := Y.cellsAbove h1
    have hsA := Y.slotsAbove h2
    have hbk := Y.book
    simp only [State.hasRoom, Bool.and_eq_true, decide_eq_true_eq] at hr ⊢
    refine ⟨⟨⟨⟨?_, ?_, ?_, ?_, ?_, ?_⟩, hcA⟩, hsA⟩, hbk⟩
    · rw [hloc]; exact hr.1.1.1.1
    · rw [hF, ← Y.frames]; exact hr.1.1.1.2.1
    · rw [hlim, hF, ← Y.frames]; exact hr.1.1.1.2.2.1
    · rw [hloc]; exact hr.1.1.1.2.2.2.1
    · rw [hloc, hlim]; exact hr.1.1.1.2.2.2.2.1
    · rw [hbyt]; exact hr.1.1.1.2.2.2.2.2
  · have hh := Y.hears
    rcases below with _ | ⟨y, r⟩
    · simp only [State.hears] at hh ⊢
      rw [show (T.setFrames _).vm = T.vm from rfl, Y.method']
      rw [Y.method] at hh
      exact hh
    · cases y
      case java g =>
        simp only [State.hears, State.code?_eq] at hh ⊢
        rw [show (T.setFrames _).vm = T.vm from rfl, Y.warmed.alike.method?]
        exact hh
      case native g => rfl
      case proc g => rfl
      all_goals
        simp only [State.hears] at hh ⊢
        rw [show (T.setFrames _).vm = T.vm from rfl, Y.method']
        rw [Y.method] at hh
        exact hh
  · rw [State.stackLimits_setFrames]
  · rw [State.stackBytes_setFrames]
  · have hq := (State.sameButNew.refl (T.setFrames (.invoking m args :: below)) (State.frames_cons hF).choose_spec.1).setFrames T.frames (State.cur_lt_of_frames hF)
    rw [State.setFrames_setFrames, State.setFrames_self hth] at hq
    exact hq
section MMT
variable {l : Launch} {X : Nat × (Nat → Int32)} {k d pc : Nat} {L S : List Value} {σ σ1 σ' : mm_S} {mc ms mc1 ms1 : Nat} {o : mm_O}
theorem mm_throw {E text : String} {ix isx ic : Nat} {names : List String} (hd0 : decode (mm_cb k) pc = .ok (.new ix, 3)) (hd3 : decode (mm_cb k) (pc + 3) = .ok (.dup, 1)) (hd4 : decode (mm_cb k) (pc + 4) = .ok (.ldc isx, 2)) (hd6 : decode (mm_cb k) (pc + 6) = .ok (.invokespecial ic, 3)) (hd9 : decode (mm_cb k) (pc + 9) = .ok (.athrow, 1))
    (w1 : Cond.classLink (mm_yn k).cls ix E ∈ mm_tb) (w2 : Cond.instantiable E 6 ∈ mm_tb) (w3 : Cond.initialized E ∈ mm_tb) (w4 : Cond.stringRef (mm_yn k).cls isx text ∈ mm_tb)
    (w5 : ∀ w ∈ Bundle.ownAtoms (mm_yn k).cls ic E names, w ∈ mm_tb ∨ w = .isRef (.static Bundle.tN "UNASSIGNED_STACK" Bundle.steD) ∨ w = .isRef (.static Bundle.tN "SUPPRESSED_SENTINEL" Bundle.listD) ∨ w = .laysStatic Bundle.tN "UNASSIGNED_STACK" Bundle.steD ∨ w = .laysStatic Bundle.tN "SUPPRESSED_SENTINEL" Bundle.listD)
    (hE : Bundle.fit E = true) (hN : ∀ n ∈ names, Bundle.fit n = true) (hl : names.length ≤ 4) (hh : mm_ht k = []) : mm_Run l X k d pc L [] σ 1 6 (.inr E) σ := by
  intro p e R s m args below meth c D A cI cL φ hc H locs cells slots ρ ws ls st hW hP hD hS hL hV h1 h2
  cases st with
  | cons _ _ => exact hV.elim
  | nil =>
  intro T hT Y
  have Y0 := mm_rebase Y h1 h2
  generalize hs0 : T.setFrames (.invoking m args :: below) = s0 at Y0
  have hheap0 : s0.heap = H := by rw [← hs0]; exact hT
  have hvm0 : s0.vm = T.vm := by rw [← hs0]; rfl
  have hts : ∀ w ∈ mm_tb, w.before args s0 = true := fun w h => mm_wm (List.mem_filter.mp h).2 (by rw [hvm0]; exact Y.warmed) (hc.2.2.2.2.2.2.1 w h)
  have hal : s.vm.Alike s0.vm := by rw [hvm0]; exact Y.warmed.alike
  have hown : s0.vm.findClass (mm_yn k).cls = some m.cls := by rw [hal.findClass]; exact hc.2.2.2.2.2.1
  have hz := (hc.2.2.2.2.2.2.2.2.2.1).move hS hal hheap0
  have hb := hc.2.1
  have htab : c.exceptionTable.toList = [] := by
    have := hc.2.2.2.2.2.2.2.2.2.2.2.2.2.1
    rw [hh] at this
    simpa using this
  have key : W p l e { R with cells := 1, slots := 6 } s0 m args below meth c H [] 0 0 (fun U => U.status = .running ∧ Ended U below (.threw H.size) ∧ s0.WarmedH U.vm ∧ s0.sameButNew ({ U with vm := s0.vm } : State) [] 1 6 ∧ ∃ ce, U.heap[H.size]? = some ce ∧ ce.vm = .none ∧ s0.vm.findClass E = some ce.cls) (F0 m pc ls []) := by
    refine W.newc (n := 6) hc.1 hb hown (hts _ w1) (hts _ w2) (hts _ w3) rfl hd0 (Nat.le_refl _) (Nat.le_refl _) fun cC kC f1 f2 f3 f4 => ?_
    refine lv_dup hc.1 hb hd3 rfl ?_
    intro T1 hT1 Y1
    obtain ⟨kk, cf, i, a', -, -, -, -, -, hev⟩ := Cond.stringRef_spec hown (hts _ w4)
    have st1 := Y1.ldcString hc.1 hown (hts _ w4) hev (g := F0 m (pc + 3 + 1) ls (.ref H.size :: .ref H.size :: [])) rfl (by rw [hb]; exact hd4)
    obtain ⟨U, u1, u2, u3, u4, u5, ce, u6, u7⟩ := Y1.ctorThrowS hc.1 (hc.2.2.2.2.2.2.2.2.2.2.2.2.2.2 e Y.admits) (own := (mm_yn k).cls) (cls := E) (names := names) (ic := ic) hown hE hN
      (fun w hw => by
        rcases w5 w hw with h | rfl | rfl | rfl | rfl
        · exact hts _ h
        · exact mm_isRef hz.2.2.2.1
        · exact mm_isRef hz.2.2.2.2.1
        · exact hz.2.2.2.2.2.2.1.use
        · exact hz.2.2.2.2.2.2.2.use)
      (fun x hx => by cases hx)
      (a := H.size) f1 f2 (by rw [hT1]; simp) (by rw [hheap0]; exact Nat.le_refl _) (msg := .ref a') rfl (g := F0 m (pc + 6) ls (.ref a' :: .ref H.size :: .ref H.size :: [])) rfl (hL.1.1.trans hc.2.2.1.symm) rfl rfl rfl (by rw [hb]; exact hd6) (by rw [hb]; exact hd9) (by rw [htab]; intro x hx; cases hx)
      (by have := hc.2.2.2.2.2.2.2.2.2.2.1; show _ < R.frames; omega) (by have := hc.2.2.2.2.2.2.2.2.2.2.2.1; show _ ≤ R.locals; simp [Value.category]; omega) hc.2.2.2.2.1
    exact ⟨U, st1 U u1, u2, u3, u4, u5, ce, u6, u7.vm, u7.cls⟩
  obtain ⟨U, u1, u2, u3, u4, u5, ce, u6, u7, u8⟩ := key T hT Y0
  have hsame : s.sameButNew ({ U with vm := s.vm } : State) locs (cells + 1) (slots + 6) := by
    have q1 : T.sameButNew ({ U with vm := T.vm } : State) [] 1 6 := by
      obtain ⟨e1, e2⟩ := u5
      subst hs0
      rw [State.setFrames_setFrames] at e1
      exact ⟨e1, e2⟩
    have q2 := Y.same.trans (q1.setVm s.vm)
    rw [List.append_nil] at q2
    exact q2
  have hkeep : ∀ q, q < H.size → U.heap[q]? = H[q]? := by
    intro q hq
    obtain ⟨c', c1, c2, c3, c4⟩ := u5.2.2.2.2.2 q _ (by rw [hheap0]; exact Array.getElem?_eq_getElem hq)
    have c1' : U.heap[q]? = some c' := c1
    rw [c1', Array.getElem?_eq_getElem hq]
    congr 1
    rw [c2]
    have : c'.slots = (H[q]).slots := by
      apply Array.ext_getElem?
      intro i
      exact c4 i (by simp)
    rw [this]
  have hsz : H.size ≤ U.heap.size := by have := u5.2.1; rw [hheap0] at this; exact this
  refine ⟨U, u1, .threw H.size, [], ws, locs, u2, u3, ?_, ?_, hD, ?_, ?_, hsame, H.size, ce, rfl, u6, u7, ?_⟩
  · rw [List.append_nil]; exact hW
  · intro i q hq
    exact (hP i q hq).kept (hkeep _ (hP i q hq).lt)
  · exact ⟨Nat.le_trans hS.1 hsz, fun q q1 q2 => by rw [hkeep q (Nat.lt_of_lt_of_le q1 hS.1)]; exact hS.2.1 q q1 q2, hS.2.2⟩
  · have : T.WarmedH U.vm := by subst hs0; exact u4
    exact State.WarmedH.trans Y.warmed this
  · rw [← hal.findClass]; exact u8
end MMT
