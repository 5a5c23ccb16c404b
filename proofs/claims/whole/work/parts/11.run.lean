/-! ===== where the small machine's words hold of the real one ===== -/
def mm_gw : Cond → Bool
  | .stringRef .. => true
  | .methodLinkNest .. => true
  | .arrayClass _ => true
  | w => w.onTables && (w.keeps || w.faceAtom)
/-- the words that hold under all warmer tables -/
def mm_tb : List Cond := lw_tbl.filter mm_gw
theorem mm_wm {w : Cond} {args a' : Array Value} {s U : State} (hw : mm_gw w = true) (hW : s.WarmedH U.vm) (h : w.before args s = true) : w.before a' U = true := by
  have key : (w.onTables && (w.keeps || w.faceAtom)) = true → w.before a' U = true := by
    intro hq
    simp only [Bool.and_eq_true, Bool.or_eq_true] at hq
    rcases hq with ⟨h1, h2 | h2⟩
    · exact word_at hW (Or.inl (by simp [h1, h2])) h
    · have h3 : w.before args (s.setVm U.vm) = true := Cond.faceAtom_setVm hW.alike w h2 h
      have h4 := Cond.onTables_vm (A := args) (A' := a') (U := s) (U' := U) U.vm w h1
      rw [State.setVm_self] at h4
      rw [← h4]; exact h3
  cases w <;> first | exact key hw | skip
  case stringRef a b c =>
    have h1 := Cond.stringRef_warmed hW h
    exact h1
  case methodLinkNest a b c d => exact va_Nw.use rfl (va_Nw.warmM hW (va_Nw.of rfl h))
  case arrayClass ty => exact word_at hW (Or.inr ⟨ty, rfl⟩) h
def mm_LS (C n d : String) (A : Nat → Prop) (U : State) (H : Heap) : Prop := ∃ (c : ClassId) (k : Class) (i : Nat) (f : Field) (a : Nat) (cell : Cell), U.vm.findClass C = some c ∧ U.fieldFound? C n d = some (c, k, i, f) ∧ f.isStatic = true ∧ k.statics = some a ∧ H[a]? = some cell ∧ cell.vm.isStatics = true ∧ cell.cls = c ∧ f.slot < cell.slots.size ∧ k.staticTypes[f.slot]? = some f.type ∧ ¬ A a
theorem mm_LS.moved {C n d : String} {A : Nat → Prop} {u U : State} {H : Heap} (hvm : u.vm.Alike U.vm) (h : mm_LS C n d A u H) : mm_LS C n d A U H := by
  obtain ⟨c, k, i, f, a, cell, h0, h1, h2, h3, h4, h5, h6, h7, h8, h9⟩ := h
  obtain ⟨k', hi', he⟩ := State.fieldFound?_setVm hvm h1
  exact ⟨c, k', i, f, a, cell, by rw [hvm.findClass]; exact h0, hi', h2, by rw [he]; exact h3, h4, h5, h6, h7, by rw [he]; exact h8, h9⟩
theorem mm_LS.kept {C n d : String} {A : Nat → Prop} {U : State} {H H1 : Heap} (h : mm_LS C n d A U H) (hq : ∀ a : Nat, a < H.size → ¬ A a → H1[a]? = H[a]?) : mm_LS C n d A U H1 := by
  obtain ⟨c, k, i, f, a, cell, h0, h1, h2, h3, h4, h5, h6, h7, h8, h9⟩ := h
  exact ⟨c, k, i, f, a, cell, h0, h1, h2, h3, by rw [hq a (Array.getElem?_eq_some_iff.mp h4).1 h9]; exact h4, h5, h6, h7, h8, h9⟩
theorem mm_LS.use {C n d : String} {A : Nat → Prop} {U : State} {args : Array Value} (h : mm_LS C n d A U U.heap) : (Cond.laysStatic C n d).before args U = true := by
  obtain ⟨c, k, i, f, a, cell, h0, h1, h2, h3, h4, h5, h6, h7, h8, h9⟩ := h
  simp [Cond.before, Cond.holds, Cond.value, h0, h1, h2, h3, h4, h5, h6, h7, h8]
theorem mm_LS.of {C n d : String} {A : Nat → Prop} {U : State} {args : Array Value} (h : (Cond.laysStatic C n d).before args U = true) (hA : ∀ a : Nat, a < U.heap.size → ¬ A a) : mm_LS C n d A U U.heap := by
  obtain ⟨c, k, i, f, a, cell, h0, h1, h2, h3, h4, h5, h6, h7, h8⟩ := Cond.laysStatic_spec h
  exact ⟨c, k, i, f, a, cell, h0, h1, h2, h3, h4, h5, h6, h7, h8, hA a (Array.getElem?_eq_some_iff.mp h4).1⟩
def mm_F (φ ρ : List Nat) (M : mm_M) (p : Nat) (ks : List Nat) (rs fs : List Value) : Prop :=
  fs.length = ks.length ∧ ∀ (j t : Nat), ks[j]? = some t → ∃ w, fs[j]? = some w ∧ (match t with
    | 0 => w = .int (M.1 p j)
    | 1 => w = .long (M.2 p j)
    | _ => mm_nth rs j ≠ .null → mm_V φ ρ (mm_nth rs j) w)
def mm_C (φ ρ : List Nat) (cI cL : ClassId) (M : mm_M) (p : Nat) : mm_K → va_E → Prop
  | (0, n, _), E => E = .inl (cI, n, .inl (M.1 p))
  | (1, n, _), E => E = .inl (cL, n, .inr (.inl (M.2 p)))
  | (2, ci, rs), E => ∃ fs, E = .inr (ci, fs) ∧ mm_F φ ρ M p (mm_fk ci) rs fs
  | _, _ => False
def mm_W (φ ρ : List Nat) (cI cL : ClassId) (σ : mm_S) (ws : va_W) : Prop :=
  ws.length = σ.1.length ∧ ρ.length = σ.1.length ∧ ∀ (p : Nat) (kd : mm_K), σ.1[p]? = some kd → ∃ a E, ρ[p]? = some a ∧ ws[p]? = some (a, E) ∧ mm_C φ ρ cI cL σ.2 p kd E
def mm_ex : Nat → String
  | 0 => "java/lang/IndexOutOfBoundsException"
  | 1 => "java/lang/IllegalArgumentException"
  | _ => "java/lang/IllegalStateException"
/-- what nobody writes: the script, the constants of the enum, two statics of Throwable -/
def mm_Fz (X : Nat × (Nat → Int32)) (φ : List Nat) (A : Nat → Prop) (U : State) (H : Heap) : Prop :=
  (∃ b, φ[0]? = some b ∧ va_X b X.1 X.2 U H ∧ ¬ A b ∧ b < H.size) ∧
  (∀ j, j < 3 → ∃ a, φ[j + 1]? = some a ∧ va_Z mm_oc (mm_on j) mm_od (.ref a) A U H) ∧
  (∀ i j a, i < 3 → j < 3 → φ[i + 1]? = some a → φ[j + 1]? = some a → i = j) ∧
  va_Zq Bundle.tN "UNASSIGNED_STACK" Bundle.steD A U H ∧ va_Zq Bundle.tN "SUPPRESSED_SENTINEL" Bundle.listD A U H ∧
  (∀ i j, i < 3 → j < 3 → i ≠ j → va_Nc (mm_ex i) (mm_ex j) U) ∧
  mm_LS Bundle.tN "UNASSIGNED_STACK" Bundle.steD A U H ∧ mm_LS Bundle.tN "SUPPRESSED_SENTINEL" Bundle.listD A U H
def mm_Cx (l : Launch) (k d : Nat) (X : Nat × (Nat → Int32)) (φ : List Nat) (p : Program) (e : Env) (R : Room) (s : State) (m : MethodId) (args : Array Value) (meth : Method) (c : Code) (D : va_G) (A : Nat → Prop) (cI cL : ClassId) : Prop :=
  p.tables.exec = Jvm.exec ∧ c.code = mm_cb k ∧ c.maxLocals = mm_ml k ∧ meth.sig.returnType = mm_rt k ∧ meth.locks = false ∧ s.vm.findClass (mm_yn k).cls = some m.cls ∧
  (∀ w ∈ mm_tb, w.before args s = true) ∧ va_K D mm_cl [(cI, .int), (cL, .long)] s ∧ (∀ q, s.heap.size ≤ q → A q) ∧ mm_Fz X φ A s s.heap ∧ d + 10 ≤ R.frames ∧ 100 * d + 300 ≤ R.locals ∧
  meth.name = (mm_yn k).name ∧ c.exceptionTable.toList.map (fun h => (h.startPc, h.endPc, h.handlerPc, h.catchType)) = mm_ht k ∧ ∀ e' : Env, l.admits e' → e'.platform.stackTraces = false
def mm_Vo (φ ρ : List Nat) : Option Value → Option Value → Prop
  | none, none => True
  | some v, some w => mm_V φ ρ v w
  | _, _ => False
def mm_Oc (φ ρ : List Nat) (s : State) (o : mm_O) (ro : Outcome) (t : State) : Prop := match o with
  | .inl v => ∃ vr, ro = .returned vr ∧ mm_Vo φ ρ v vr
  | .inr E => ∃ a ce, ro = .threw a ∧ t.heap[a]? = some ce ∧ ce.vm = .none ∧ s.vm.findClass E = some ce.cls
def mm_Q (φ ρ : List Nat) (D : va_G) (A : Nat → Prop) (cI cL : ClassId) (below : List Frame) (s : State) (nc ns : Nat) (o : mm_O) (σ' : mm_S) : State → Prop := fun t =>
  ∃ (ro : Outcome) (δ : List Nat) (ws' : va_W) (Lc : List Loc), t.status = .running ∧ Ended t below ro ∧ mm_W φ (ρ ++ δ) cI cL σ' ws' ∧ va_P D mm_cl ws' t.heap ∧ va_D A ws' ∧ va_S A s.heap t.heap Lc ∧
    s.WarmedH t.vm ∧ s.sameButNew ({ t with vm := s.vm } : State) Lc nc ns ∧ mm_Oc φ (ρ ++ δ) s o ro t
def mm_Run (l : Launch) (X : Nat × (Nat → Int32)) (k d pc : Nat) (L S : List Value) (σ : mm_S) (mc ms : Nat) (o : mm_O) (σ' : mm_S) : Prop :=
  ∀ ⦃p : Program⦄ ⦃e : Env⦄ ⦃R : Room⦄ ⦃s : State⦄ ⦃m : MethodId⦄ ⦃args : Array Value⦄ ⦃below : List Frame⦄ ⦃meth : Method⦄ ⦃c : Code⦄ ⦃D : va_G⦄ ⦃A : Nat → Prop⦄ ⦃cI cL : ClassId⦄ ⦃φ : List Nat⦄,
    mm_Cx l k d X φ p e R s m args meth c D A cI cL →
    ∀ ⦃H : Heap⦄ ⦃locs : List Loc⦄ ⦃cells slots : Nat⦄ ⦃ρ : List Nat⦄ ⦃ws : va_W⦄ ⦃ls : Array Slot⦄ ⦃st : List Value⦄,
      mm_W φ ρ cI cL σ ws → va_P D mm_cl ws H → va_D A ws → va_S A s.heap H locs → mm_L φ ρ L ls (mm_ml k) → mm_Vs φ ρ S st → cells + mc ≤ R.cells → slots + ms ≤ R.slots →
      W p l e R s m args below meth c H locs cells slots (mm_Q φ ρ D A cI cL below s (cells + mc) (slots + ms) o σ') (F0 m pc ls st)
section MM
variable {l : Launch} {X : Nat × (Nat → Int32)} {k d pc : Nat} {L S : List Value} {σ σ' : mm_S} {mc ms : Nat} {o : mm_O}
theorem mm_simple {pc' : Nat} {L' S' : List Value}
    (h : ∀ {p : Program} {e : Env} {R : Room} {s : State} {m : MethodId} {args : Array Value} {below : List Frame} {meth : Method} {c : Code} {D : va_G} {A : Nat → Prop} {cI cL : ClassId} {φ ρ : List Nat} {H : Heap} {locs : List Loc} {cells slots : Nat} {ls : Array Slot} {st : List Value} {Q : State → Prop},
      mm_Cx l k d X φ p e R s m args meth c D A cI cL → mm_L φ ρ L ls (mm_ml k) → mm_Vs φ ρ S st →
      (∀ ls' st', mm_L φ ρ L' ls' (mm_ml k) → mm_Vs φ ρ S' st' → W p l e R s m args below meth c H locs cells slots Q (F0 m pc' ls' st')) → W p l e R s m args below meth c H locs cells slots Q (F0 m pc ls st))
    (hr : mm_Run l X k d pc' L' S' σ mc ms o σ') : mm_Run l X k d pc L S σ mc ms o σ' := by
  intro p e R s m args below meth c D A cI cL φ hc H locs cells slots ρ ws ls st hW hP hD hS hL hV h1 h2
  exact h hc hL hV fun ls' st' q1 q2 => hr hc hW hP hD hS q1 q2 h1 h2
theorem mm_iconst {n : Int} (hd : decode (mm_cb k) pc = .ok (.iconst n, 1))  (hr : mm_Run l X k d (pc + 1) L (.int (Int32.ofInt n) :: S) σ mc ms o σ') : mm_Run l X k d pc L S σ mc ms o σ' := by
  refine mm_simple (fun hc hL hS kk => ?_) hr
  exact lv_iconst hc.1 hc.2.1 hd rfl (kk _ _ hL ⟨rfl, hS⟩)
theorem mm_bipush {n : Int} (hd : decode (mm_cb k) pc = .ok (.bipush n, 2))  (hr : mm_Run l X k d (pc + 2) L (.int (Int8.ofInt n).toInt32 :: S) σ mc ms o σ') : mm_Run l X k d pc L S σ mc ms o σ' := by
  refine mm_simple (fun hc hL hS kk => ?_) hr
  exact lv_bipush hc.1 hc.2.1 hd rfl (kk _ _ hL ⟨rfl, hS⟩)
theorem mm_sipush {n : Int} (hd : decode (mm_cb k) pc = .ok (.sipush n, 3))  (hr : mm_Run l X k d (pc + 3) L (.int (Int16.ofInt n).toInt32 :: S) σ mc ms o σ') : mm_Run l X k d pc L S σ mc ms o σ' := by
  refine mm_simple (fun hc hL hS kk => ?_) hr
  exact lv_sipush hc.1 hc.2.1 hd rfl (kk _ _ hL ⟨rfl, hS⟩)
theorem mm_lconst {n : Fin 2} (hd : decode (mm_cb k) pc = .ok (.lconst n, 1))  (hr : mm_Run l X k d (pc + 1) L (.long (Int64.ofNat (n : Nat)) :: S) σ mc ms o σ') : mm_Run l X k d pc L S σ mc ms o σ' := by
  refine mm_simple (fun hc hL hS kk => ?_) hr
  exact lv_lconst hc.1 hc.2.1 hd rfl (kk _ _ hL ⟨rfl, hS⟩)
theorem mm_iload_n {i : Fin 4} {x : Int32} (hd : decode (mm_cb k) pc = .ok (.iload_n i, 1)) (hl : mm_nth L (i : Nat) = .int x) (hr : mm_Run l X k d (pc + 1) L (.int x :: S) σ mc ms o σ') : mm_Run l X k d pc L S σ mc ms o σ' := by
  refine mm_simple (fun hc hL hS kk => ?_) hr
  obtain ⟨w, e1, rfl⟩ := hL.at hl (by simp)
  exact lv_iload_n hc.1 hc.2.1 hd rfl e1 (kk _ _ hL ⟨rfl, hS⟩)
theorem mm_iload {i : Nat} {x : Int32} (hd : decode (mm_cb k) pc = .ok (.iload i, 2)) (hl : mm_nth L i = .int x) (hr : mm_Run l X k d (pc + 2) L (.int x :: S) σ mc ms o σ') : mm_Run l X k d pc L S σ mc ms o σ' := by
  refine mm_simple (fun hc hL hS kk => ?_) hr
  obtain ⟨w, e1, rfl⟩ := hL.at hl (by simp)
  exact lv_iload hc.1 hc.2.1 hd e1 (kk _ _ hL ⟨rfl, hS⟩)
theorem mm_lload_n {i : Fin 4} {x : Int64} (hd : decode (mm_cb k) pc = .ok (.lload_n i, 1)) (hl : mm_nth L (i : Nat) = .long x) (hr : mm_Run l X k d (pc + 1) L (.long x :: S) σ mc ms o σ') : mm_Run l X k d pc L S σ mc ms o σ' := by
  refine mm_simple (fun hc hL hS kk => ?_) hr
  obtain ⟨w, e1, rfl⟩ := hL.at hl (by simp)
  exact lv_lload_n hc.1 hc.2.1 hd rfl e1 (kk _ _ hL ⟨rfl, hS⟩)
theorem mm_lload {i : Nat} {x : Int64} (hd : decode (mm_cb k) pc = .ok (.lload i, 2)) (hl : mm_nth L i = .long x) (hr : mm_Run l X k d (pc + 2) L (.long x :: S) σ mc ms o σ') : mm_Run l X k d pc L S σ mc ms o σ' := by
  refine mm_simple (fun hc hL hS kk => ?_) hr
  obtain ⟨w, e1, rfl⟩ := hL.at hl (by simp)
  exact lv_lload hc.1 hc.2.1 hd e1 (kk _ _ hL ⟨rfl, hS⟩)
theorem mm_isref {φ ρ : List Nat} {v w : Value} (h : mm_V φ ρ v w) (hv : (∃ p, v = .ref p) ∨ ∃ j, v = .retAddr j) : ∃ a, w = .ref a := by
  rcases hv with ⟨p, rfl⟩ | ⟨j, rfl⟩ <;> (obtain ⟨a, -, e⟩ := h; exact ⟨a, e⟩)
theorem mm_refne {v : Value} (hv : (∃ p, v = .ref p) ∨ ∃ j, v = .retAddr j) : v ≠ .null := by
  rcases hv with ⟨p, rfl⟩ | ⟨j, rfl⟩ <;> simp
theorem mm_aload_n {i : Fin 4} {v : Value} (hd : decode (mm_cb k) pc = .ok (.aload_n i, 1)) (hl : mm_nth L (i : Nat) = v) (hv : (∃ p, v = .ref p) ∨ ∃ j, v = .retAddr j) (hr : mm_Run l X k d (pc + 1) L (v :: S) σ mc ms o σ') : mm_Run l X k d pc L S σ mc ms o σ' := by
  refine mm_simple (fun hc hL hS kk => ?_) hr
  obtain ⟨w, e1, h1⟩ := hL.at hl (mm_refne hv)
  obtain ⟨a, rfl⟩ := mm_isref h1 hv
  exact lv_aload_n hc.1 hc.2.1 hd rfl e1 (kk _ _ hL ⟨h1, hS⟩)
theorem mm_aload {i : Nat} {v : Value} (hd : decode (mm_cb k) pc = .ok (.aload i, 2)) (hl : mm_nth L i = v) (hv : (∃ p, v = .ref p) ∨ ∃ j, v = .retAddr j) (hr : mm_Run l X k d (pc + 2) L (v :: S) σ mc ms o σ') : mm_Run l X k d pc L S σ mc ms o σ' := by
  refine mm_simple (fun hc hL hS kk => ?_) hr
  obtain ⟨w, e1, h1⟩ := hL.at hl (mm_refne hv)
  obtain ⟨a, rfl⟩ := mm_isref h1 hv
  exact lv_aload hc.1 hc.2.1 hd e1 (kk _ _ hL ⟨h1, hS⟩)
theorem mm_istore_n {i : Fin 4} {x : Int32} (hd : decode (mm_cb k) pc = .ok (.istore_n i, 1)) (hi : (i : Nat) < mm_ml k) (hr : mm_Run l X k d (pc + 1) (mm_st1 (i : Nat) (.int x) L) S σ mc ms o σ') : mm_Run l X k d pc L (.int x :: S) σ mc ms o σ' := by
  refine mm_simple (fun hc hL hS kk => ?_) hr
  obtain ⟨_, st, rfl, rfl, hS1⟩ := hS.cons
  exact lv_istore_n hc.1 hc.2.1 hd rfl (mm_all_has hL.1) hi rfl (fun ls1 h1 => kk _ _ (hL.st1 (fun _ => rfl) h1) hS1)
theorem mm_istore {i : Nat} {x : Int32} (hd : decode (mm_cb k) pc = .ok (.istore i, 2)) (hi : i < mm_ml k) (hr : mm_Run l X k d (pc + 2) (mm_st1 i (.int x) L) S σ mc ms o σ') : mm_Run l X k d pc L (.int x :: S) σ mc ms o σ' := by
  refine mm_simple (fun hc hL hS kk => ?_) hr
  obtain ⟨_, st, rfl, rfl, hS1⟩ := hS.cons
  exact lv_istore hc.1 hc.2.1 hd (mm_all_has hL.1) hi rfl (fun ls1 h1 => kk _ _ (hL.st1 (fun _ => rfl) h1) hS1)
theorem mm_lstore_n {i : Fin 4} {x : Int64} (hd : decode (mm_cb k) pc = .ok (.lstore_n i, 1)) (hi : (i : Nat) + 1 < mm_ml k) (hr : mm_Run l X k d (pc + 1) (mm_st2 (i : Nat) (.long x) L) S σ mc ms o σ') : mm_Run l X k d pc L (.long x :: S) σ mc ms o σ' := by
  refine mm_simple (fun hc hL hS kk => ?_) hr
  obtain ⟨_, st, rfl, rfl, hS1⟩ := hS.cons
  exact lv_lstore_n hc.1 hc.2.1 hd rfl (mm_all_has hL.1) hi rfl (fun ls1 h1 => kk _ _ (hL.st2 rfl h1) hS1)
theorem mm_lstore {i : Nat} {x : Int64} (hd : decode (mm_cb k) pc = .ok (.lstore i, 2)) (hi : i + 1 < mm_ml k) (hr : mm_Run l X k d (pc + 2) (mm_st2 i (.long x) L) S σ mc ms o σ') : mm_Run l X k d pc L (.long x :: S) σ mc ms o σ' := by
  refine mm_simple (fun hc hL hS kk => ?_) hr
  obtain ⟨_, st, rfl, rfl, hS1⟩ := hS.cons
  exact lv_lstore hc.1 hc.2.1 hd (mm_all_has hL.1) hi rfl (fun ls1 h1 => kk _ _ (hL.st2 rfl h1) hS1)
theorem mm_astore_n {i : Fin 4} {v : Value} (hd : decode (mm_cb k) pc = .ok (.astore_n i, 1)) (hv : v = .null ∨ (∃ p, v = .ref p) ∨ ∃ j, v = .retAddr j) (hi : (i : Nat) < mm_ml k) (hr : mm_Run l X k d (pc + 1) (mm_st1 (i : Nat) v L) S σ mc ms o σ') : mm_Run l X k d pc L (v :: S) σ mc ms o σ' := by
  refine mm_simple (fun hc hL hS kk => ?_) hr
  obtain ⟨w, st, rfl, h1, hS1⟩ := hS.cons
  have hw : ∃ a, w = .ref a := by
    rcases hv with rfl | hv
    · exact h1
    · exact mm_isref h1 hv
  obtain ⟨a, rfl⟩ := hw
  exact lv_astore_n hc.1 hc.2.1 hd rfl (mm_all_has hL.1) hi rfl (fun ls1 h2 => kk _ _ (hL.st1 (fun _ => h1) h2) hS1)
theorem mm_astore {i : Nat} {v : Value} (hd : decode (mm_cb k) pc = .ok (.astore i, 2)) (hv : v = .null ∨ (∃ p, v = .ref p) ∨ ∃ j, v = .retAddr j) (hi : i < mm_ml k) (hr : mm_Run l X k d (pc + 2) (mm_st1 i v L) S σ mc ms o σ') : mm_Run l X k d pc L (v :: S) σ mc ms o σ' := by
  refine mm_simple (fun hc hL hS kk => ?_) hr
  obtain ⟨w, st, rfl, h1, hS1⟩ := hS.cons
  have hw : ∃ a, w = .ref a := by
    rcases hv with rfl | hv
    · exact h1
    · exact mm_isref h1 hv
  obtain ⟨a, rfl⟩ := hw
  exact lv_astore hc.1 hc.2.1 hd (mm_all_has hL.1) hi rfl (fun ls1 h2 => kk _ _ (hL.st1 (fun _ => h1) h2) hS1)
theorem mm_iinc {i : Nat} {n : Int} {x : Int32} (hd : decode (mm_cb k) pc = .ok (.iinc i n, 3)) (hl : mm_nth L i = .int x) (hi : i < mm_ml k) (hr : mm_Run l X k d (pc + 3) (mm_st1 i (.int (x + Int32.ofInt n)) L) S σ mc ms o σ') : mm_Run l X k d pc L S σ mc ms o σ' := by
  refine mm_simple (fun hc hL hS kk => ?_) hr
  obtain ⟨w, e1, rfl⟩ := hL.at hl (by simp)
  obtain ⟨kk0, hk0⟩ := List.getElem?_of_mem (mm_all_mem.mpr e1 : (i, Value.int x) ∈ mm_all _)
  exact lv_iinc hc.1 hc.2.1 hd (mm_all_has hL.1) hk0 rfl hi rfl (fun ls1 h1 => kk _ _ (hL.st1 (fun _ => rfl) h1) hS)
theorem mm_iadd {x y : Int32} (hd : decode (mm_cb k) pc = .ok (.iadd, 1))  (hr : mm_Run l X k d (pc + 1) L (.int (x + y) :: S) σ mc ms o σ') : mm_Run l X k d pc L (.int y :: .int x :: S) σ mc ms o σ' := by
  refine mm_simple (fun hc hL hS kk => ?_) hr
  obtain ⟨_, st, rfl, rfl, hS1⟩ := hS.cons
  obtain ⟨_, st, rfl, rfl, hS2⟩ := hS1.cons
  exact lv_iadd hc.1 hc.2.1 hd (kk _ _ hL ⟨rfl, hS2⟩)
theorem mm_isub {x y : Int32} (hd : decode (mm_cb k) pc = .ok (.isub, 1))  (hr : mm_Run l X k d (pc + 1) L (.int (x - y) :: S) σ mc ms o σ') : mm_Run l X k d pc L (.int y :: .int x :: S) σ mc ms o σ' := by
  refine mm_simple (fun hc hL hS kk => ?_) hr
  obtain ⟨_, st, rfl, rfl, hS1⟩ := hS.cons
  obtain ⟨_, st, rfl, rfl, hS2⟩ := hS1.cons
  exact lv_isub hc.1 hc.2.1 hd (kk _ _ hL ⟨rfl, hS2⟩)
theorem mm_imul {x y : Int32} (hd : decode (mm_cb k) pc = .ok (.imul, 1))  (hr : mm_Run l X k d (pc + 1) L (.int (x * y) :: S) σ mc ms o σ') : mm_Run l X k d pc L (.int y :: .int x :: S) σ mc ms o σ' := by
  refine mm_simple (fun hc hL hS kk => ?_) hr
  obtain ⟨_, st, rfl, rfl, hS1⟩ := hS.cons
  obtain ⟨_, st, rfl, rfl, hS2⟩ := hS1.cons
  exact lv_imul hc.1 hc.2.1 hd (kk _ _ hL ⟨rfl, hS2⟩)
theorem mm_iand {x y : Int32} (hd : decode (mm_cb k) pc = .ok (.iand, 1))  (hr : mm_Run l X k d (pc + 1) L (.int (x &&& y) :: S) σ mc ms o σ') : mm_Run l X k d pc L (.int y :: .int x :: S) σ mc ms o σ' := by
  refine mm_simple (fun hc hL hS kk => ?_) hr
  obtain ⟨_, st, rfl, rfl, hS1⟩ := hS.cons
  obtain ⟨_, st, rfl, rfl, hS2⟩ := hS1.cons
  exact lv_iand hc.1 hc.2.1 hd (kk _ _ hL ⟨rfl, hS2⟩)
theorem mm_ior {x y : Int32} (hd : decode (mm_cb k) pc = .ok (.ior, 1))  (hr : mm_Run l X k d (pc + 1) L (.int (x ||| y) :: S) σ mc ms o σ') : mm_Run l X k d pc L (.int y :: .int x :: S) σ mc ms o σ' := by
  refine mm_simple (fun hc hL hS kk => ?_) hr
  obtain ⟨_, st, rfl, rfl, hS1⟩ := hS.cons
  obtain ⟨_, st, rfl, rfl, hS2⟩ := hS1.cons
  exact lv_ior hc.1 hc.2.1 hd (kk _ _ hL ⟨rfl, hS2⟩)
theorem mm_ishl {x y : Int32} (hd : decode (mm_cb k) pc = .ok (.ishl, 1))  (hr : mm_Run l X k d (pc + 1) L (.int (x <<< (y &&& 31)) :: S) σ mc ms o σ') : mm_Run l X k d pc L (.int y :: .int x :: S) σ mc ms o σ' := by
  refine mm_simple (fun hc hL hS kk => ?_) hr
  obtain ⟨_, st, rfl, rfl, hS1⟩ := hS.cons
  obtain ⟨_, st, rfl, rfl, hS2⟩ := hS1.cons
  exact lv_ishl hc.1 hc.2.1 hd (kk _ _ hL ⟨rfl, hS2⟩)
theorem mm_ishr {x y : Int32} (hd : decode (mm_cb k) pc = .ok (.ishr, 1))  (hr : mm_Run l X k d (pc + 1) L (.int (x >>> (y &&& 31)) :: S) σ mc ms o σ') : mm_Run l X k d pc L (.int y :: .int x :: S) σ mc ms o σ' := by
  refine mm_simple (fun hc hL hS kk => ?_) hr
  obtain ⟨_, st, rfl, rfl, hS1⟩ := hS.cons
  obtain ⟨_, st, rfl, rfl, hS2⟩ := hS1.cons
  exact lv_ishr hc.1 hc.2.1 hd (kk _ _ hL ⟨rfl, hS2⟩)
theorem mm_ladd {x y : Int64} (hd : decode (mm_cb k) pc = .ok (.ladd, 1))  (hr : mm_Run l X k d (pc + 1) L (.long (x + y) :: S) σ mc ms o σ') : mm_Run l X k d pc L (.long y :: .long x :: S) σ mc ms o σ' := by
  refine mm_simple (fun hc hL hS kk => ?_) hr
  obtain ⟨_, st, rfl, rfl, hS1⟩ := hS.cons
  obtain ⟨_, st, rfl, rfl, hS2⟩ := hS1.cons
  exact lv_ladd hc.1 hc.2.1 hd (kk _ _ hL ⟨rfl, hS2⟩)
theorem mm_lsub {x y : Int64} (hd : decode (mm_cb k) pc = .ok (.lsub, 1))  (hr : mm_Run l X k d (pc + 1) L (.long (x - y) :: S) σ mc ms o σ') : mm_Run l X k d pc L (.long y :: .long x :: S) σ mc ms o σ' := by
  refine mm_simple (fun hc hL hS kk => ?_) hr
  obtain ⟨_, st, rfl, rfl, hS1⟩ := hS.cons
  obtain ⟨_, st, rfl, rfl, hS2⟩ := hS1.cons
  exact lv_lsub hc.1 hc.2.1 hd (kk _ _ hL ⟨rfl, hS2⟩)
theorem mm_lmul {x y : Int64} (hd : decode (mm_cb k) pc = .ok (.lmul, 1))  (hr : mm_Run l X k d (pc + 1) L (.long (x * y) :: S) σ mc ms o σ') : mm_Run l X k d pc L (.long y :: .long x :: S) σ mc ms o σ' := by
  refine mm_simple (fun hc hL hS kk => ?_) hr
  obtain ⟨_, st, rfl, rfl, hS1⟩ := hS.cons
  obtain ⟨_, st, rfl, rfl, hS2⟩ := hS1.cons
  exact lv_lmul hc.1 hc.2.1 hd (kk _ _ hL ⟨rfl, hS2⟩)
theorem mm_land {x y : Int64} (hd : decode (mm_cb k) pc = .ok (.land, 1))  (hr : mm_Run l X k d (pc + 1) L (.long (x &&& y) :: S) σ mc ms o σ') : mm_Run l X k d pc L (.long y :: .long x :: S) σ mc ms o σ' := by
  refine mm_simple (fun hc hL hS kk => ?_) hr
  obtain ⟨_, st, rfl, rfl, hS1⟩ := hS.cons
  obtain ⟨_, st, rfl, rfl, hS2⟩ := hS1.cons
  exact lv_land hc.1 hc.2.1 hd (kk _ _ hL ⟨rfl, hS2⟩)
theorem mm_lor {x y : Int64} (hd : decode (mm_cb k) pc = .ok (.lor, 1))  (hr : mm_Run l X k d (pc + 1) L (.long (x ||| y) :: S) σ mc ms o σ') : mm_Run l X k d pc L (.long y :: .long x :: S) σ mc ms o σ' := by
  refine mm_simple (fun hc hL hS kk => ?_) hr
  obtain ⟨_, st, rfl, rfl, hS1⟩ := hS.cons
  obtain ⟨_, st, rfl, rfl, hS2⟩ := hS1.cons
  exact lv_lor hc.1 hc.2.1 hd (kk _ _ hL ⟨rfl, hS2⟩)
theorem mm_idiv {x y : Int32} (hd : decode (mm_cb k) pc = .ok (.idiv, 1)) (hne : ¬ y = 0) (hr : mm_Run l X k d (pc + 1) L (.int (x / y) :: S) σ mc ms o σ') : mm_Run l X k d pc L (.int y :: .int x :: S) σ mc ms o σ' := by
  refine mm_simple (fun hc hL hS kk => ?_) hr
  obtain ⟨_, st, rfl, rfl, hS1⟩ := hS.cons
  obtain ⟨_, st, rfl, rfl, hS2⟩ := hS1.cons
  exact lv_idiv hc.1 hc.2.1 hd hne (kk _ _ hL ⟨rfl, hS2⟩)
theorem mm_irem {x y : Int32} (hd : decode (mm_cb k) pc = .ok (.irem, 1)) (hne : ¬ y = 0) (hr : mm_Run l X k d (pc + 1) L (.int (x - x / y * y) :: S) σ mc ms o σ') : mm_Run l X k d pc L (.int y :: .int x :: S) σ mc ms o σ' := by
  refine mm_simple (fun hc hL hS kk => ?_) hr
  obtain ⟨_, st, rfl, rfl, hS1⟩ := hS.cons
  obtain ⟨_, st, rfl, rfl, hS2⟩ := hS1.cons
  exact lv_irem hc.1 hc.2.1 hd hne (kk _ _ hL ⟨rfl, hS2⟩)
theorem mm_ldiv {x y : Int64} (hd : decode (mm_cb k) pc = .ok (.ldiv, 1)) (hne : ¬ y = 0) (hr : mm_Run l X k d (pc + 1) L (.long (x / y) :: S) σ mc ms o σ') : mm_Run l X k d pc L (.long y :: .long x :: S) σ mc ms o σ' := by
  refine mm_simple (fun hc hL hS kk => ?_) hr
  obtain ⟨_, st, rfl, rfl, hS1⟩ := hS.cons
  obtain ⟨_, st, rfl, rfl, hS2⟩ := hS1.cons
  exact lv_ldiv hc.1 hc.2.1 hd hne (kk _ _ hL ⟨rfl, hS2⟩)
theorem mm_lrem {x y : Int64} (hd : decode (mm_cb k) pc = .ok (.lrem, 1)) (hne : ¬ y = 0) (hr : mm_Run l X k d (pc + 1) L (.long (x - x / y * y) :: S) σ mc ms o σ') : mm_Run l X k d pc L (.long y :: .long x :: S) σ mc ms o σ' := by
  refine mm_simple (fun hc hL hS kk => ?_) hr
  obtain ⟨_, st, rfl, rfl, hS1⟩ := hS.cons
  obtain ⟨_, st, rfl, rfl, hS2⟩ := hS1.cons
  exact lv_lrem hc.1 hc.2.1 hd hne (kk _ _ hL ⟨rfl, hS2⟩)
theorem mm_lshl {x : Int64} {y : Int32} (hd : decode (mm_cb k) pc = .ok (.lshl, 1))  (hr : mm_Run l X k d (pc + 1) L (.long (x <<< (y.toInt64 &&& 63)) :: S) σ mc ms o σ') : mm_Run l X k d pc L (.int y :: .long x :: S) σ mc ms o σ' := by
  refine mm_simple (fun hc hL hS kk => ?_) hr
  obtain ⟨_, st, rfl, rfl, hS1⟩ := hS.cons
  obtain ⟨_, st, rfl, rfl, hS2⟩ := hS1.cons
  exact lv_lshl hc.1 hc.2.1 hd rfl (kk _ _ hL ⟨rfl, hS2⟩)
theorem mm_lcmp {x y : Int64} (hd : decode (mm_cb k) pc = .ok (.lcmp, 1))  (hr : mm_Run l X k d (pc + 1) L (.int (lg_cmp x y) :: S) σ mc ms o σ') : mm_Run l X k d pc L (.long y :: .long x :: S) σ mc ms o σ' := by
  refine mm_simple (fun hc hL hS kk => ?_) hr
  obtain ⟨_, st, rfl, rfl, hS1⟩ := hS.cons
  obtain ⟨_, st, rfl, rfl, hS2⟩ := hS1.cons
  exact W.lcmp hc.1 hc.2.1 hd (kk _ _ hL ⟨rfl, hS2⟩)
theorem mm_i2l {x : Int32} (hd : decode (mm_cb k) pc = .ok (.i2l, 1))  (hr : mm_Run l X k d (pc + 1) L (.long x.toInt64 :: S) σ mc ms o σ') : mm_Run l X k d pc L (.int x :: S) σ mc ms o σ' := by
  refine mm_simple (fun hc hL hS kk => ?_) hr
  obtain ⟨_, st, rfl, rfl, hS1⟩ := hS.cons
  exact lv_i2l hc.1 hc.2.1 hd rfl (kk _ _ hL ⟨rfl, hS1⟩)
theorem mm_l2i {x : Int64} (hd : decode (mm_cb k) pc = .ok (.l2i, 1))  (hr : mm_Run l X k d (pc + 1) L (.int x.toInt32 :: S) σ mc ms o σ') : mm_Run l X k d pc L (.long x :: S) σ mc ms o σ' := by
  refine mm_simple (fun hc hL hS kk => ?_) hr
  obtain ⟨_, st, rfl, rfl, hS1⟩ := hS.cons
  exact lv_l2i hc.1 hc.2.1 hd rfl (kk _ _ hL ⟨rfl, hS1⟩)
theorem mm_dup {v : Value} (hd : decode (mm_cb k) pc = .ok (.dup, 1)) (hv : v.category = 1) (hr : mm_Run l X k d (pc + 1) L (v :: v :: S) σ mc ms o σ') : mm_Run l X k d pc L (v :: S) σ mc ms o σ' := by
  refine mm_simple (fun hc hL hS kk => ?_) hr
  obtain ⟨w, st, rfl, h1, hS1⟩ := hS.cons
  exact lv_dup hc.1 hc.2.1 hd (by rw [h1.cat]; exact hv) (kk _ _ hL ⟨h1, h1, hS1⟩)
theorem mm_pop {v : Value} (hd : decode (mm_cb k) pc = .ok (.pop, 1)) (hv : v.category = 1) (hr : mm_Run l X k d (pc + 1) L S σ mc ms o σ') : mm_Run l X k d pc L (v :: S) σ mc ms o σ' := by
  refine mm_simple (fun hc hL hS kk => ?_) hr
  obtain ⟨w, st, rfl, h1, hS1⟩ := hS.cons
  exact lv_pop hc.1 hc.2.1 hd (by rw [h1.cat]; exact hv) (kk _ _ hL hS1)
theorem mm_dup2 {v u : Value} (hd : decode (mm_cb k) pc = .ok (.dup2, 1)) (hv : v.category = 1) (hu : u.category = 1) (hr : mm_Run l X k d (pc + 1) L (v :: u :: v :: u :: S) σ mc ms o σ') : mm_Run l X k d pc L (v :: u :: S) σ mc ms o σ' := by
  refine mm_simple (fun hc hL hS kk => ?_) hr
  obtain ⟨w, st, rfl, h1, hS1⟩ := hS.cons
  obtain ⟨w2, st, rfl, h2, hS2⟩ := hS1.cons
  exact lv_dup2_11 hc.1 hc.2.1 hd (by rw [h1.cat]; exact hv) (by rw [h2.cat]; exact hu) (kk _ _ hL ⟨h1, h2, h1, h2, hS2⟩)
theorem mm_goto {off : Int} {tgt : Nat} (hd : decode (mm_cb k) pc = .ok (.goto off, 3)) (ht : (pc : Int) + off = (tgt : Int)) (hr : mm_Run l X k d tgt L S σ mc ms o σ') : mm_Run l X k d pc L S σ mc ms o σ' :=
  mm_simple (fun hc hL hS kk => lv_goto hc.1 hc.2.1 hd ht (kk _ _ hL hS)) hr
theorem mm_branch {pt pf : Nat} {S' : List Value} {P : Prop}
    (h : ∀ {p : Program} {e : Env} {R : Room} {s : State} {m : MethodId} {args : Array Value} {below : List Frame} {meth : Method} {c : Code} {D : va_G} {A : Nat → Prop} {cI cL : ClassId} {φ ρ : List Nat} {H : Heap} {locs : List Loc} {cells slots : Nat} {ls : Array Slot} {st : List Value} {Q : State → Prop},
      mm_Cx l k d X φ p e R s m args meth c D A cI cL → mm_L φ ρ L ls (mm_ml k) → mm_Vs φ ρ S st →
      (P → ∀ st', mm_Vs φ ρ S' st' → W p l e R s m args below meth c H locs cells slots Q (F0 m pt ls st')) →
      (¬ P → ∀ st', mm_Vs φ ρ S' st' → W p l e R s m args below meth c H locs cells slots Q (F0 m pf ls st')) → W p l e R s m args below meth c H locs cells slots Q (F0 m pc ls st))
    (ht : P → mm_Run l X k d pt L S' σ mc ms o σ') (hf : ¬ P → mm_Run l X k d pf L S' σ mc ms o σ') : mm_Run l X k d pc L S σ mc ms o σ' := by
  intro p e R s m args below meth c D A cI cL φ hc H locs cells slots ρ ws ls st hW hP hD hS hL hV h1 h2
  exact h hc hL hV (fun q st' q2 => ht q hc hW hP hD hS hL q2 h1 h2) (fun q st' q2 => hf q hc hW hP hD hS hL q2 h1 h2)
def mm_cnd (cd : ClassFile.Cond) (x y : Int32) : Prop := match cd with
  | .eq => x = y
  | .ne => ¬ x = y
  | .lt => x < y
  | .ge => y ≤ x
  | .gt => y < x
  | .le => x ≤ y
theorem mm_icmp {cd : ClassFile.Cond} {off : Int} {tgt : Nat} {x y : Int32} (hd : decode (mm_cb k) pc = .ok (.if_icmp cd off, 3)) (ht : (pc : Int) + off = (tgt : Int)) (kt : mm_cnd cd x y → mm_Run l X k d tgt L S σ mc ms o σ') (kf : ¬ mm_cnd cd x y → mm_Run l X k d (pc + 3) L S σ mc ms o σ') :
    mm_Run l X k d pc L (.int y :: .int x :: S) σ mc ms o σ' := by
  refine mm_branch (P := mm_cnd cd x y) (fun hc hL hS ht1 hf1 => ?_) kt kf
  obtain ⟨_, st, rfl, rfl, hS1⟩ := hS.cons
  obtain ⟨_, st, rfl, rfl, hS2⟩ := hS1.cons
  cases cd
  · exact lv_icmp_eq hc.1 hc.2.1 hd ht (fun q => ht1 q _ hS2) (fun q => hf1 q _ hS2)
  · exact lv_icmp_ne hc.1 hc.2.1 hd ht (fun q => ht1 q _ hS2) (fun q => hf1 (fun z => z q) _ hS2)
  · exact lv_icmp_lt hc.1 hc.2.1 hd ht (fun q => ht1 q _ hS2) (fun q => hf1 q _ hS2)
  · exact lv_icmp_ge hc.1 hc.2.1 hd ht (fun q => ht1 q _ hS2) (fun q => hf1 q _ hS2)
  · exact lv_icmp_gt hc.1 hc.2.1 hd ht (fun q => ht1 q _ hS2) (fun q => hf1 q _ hS2)
  · exact lv_icmp_le hc.1 hc.2.1 hd ht (fun q => ht1 q _ hS2) (fun q => hf1 q _ hS2)
theorem mm_if {cd : ClassFile.Cond} {off : Int} {tgt : Nat} {x : Int32} (hd : decode (mm_cb k) pc = .ok (.ifCond cd off, 3)) (ht : (pc : Int) + off = (tgt : Int)) (kt : mm_cnd cd x 0 → mm_Run l X k d tgt L S σ mc ms o σ') (kf : ¬ mm_cnd cd x 0 → mm_Run l X k d (pc + 3) L S σ mc ms o σ') :
    mm_Run l X k d pc L (.int x :: S) σ mc ms o σ' := by
  refine mm_branch (P := mm_cnd cd x 0) (fun hc hL hS ht1 hf1 => ?_) kt kf
  obtain ⟨_, st, rfl, rfl, hS1⟩ := hS.cons
  cases cd
  · exact lv_if_eq hc.1 hc.2.1 hd ht (fun q => ht1 q _ hS1) (fun q => hf1 q _ hS1)
  · exact lv_if_ne hc.1 hc.2.1 hd ht (fun q => ht1 q _ hS1) (fun q => hf1 (fun z => z q) _ hS1)
  · exact lv_if_lt hc.1 hc.2.1 hd ht (fun q => ht1 q _ hS1) (fun q => hf1 q _ hS1)
  · exact lv_if_ge hc.1 hc.2.1 hd ht (fun q => ht1 q _ hS1) (fun q => hf1 q _ hS1)
  · exact lv_if_gt hc.1 hc.2.1 hd ht (fun q => ht1 q _ hS1) (fun q => hf1 q _ hS1)
  · exact lv_if_le hc.1 hc.2.1 hd ht (fun q => ht1 q _ hS1) (fun q => hf1 q _ hS1)
def mm_acd (cd : ClassFile.ACond) (i j : Nat) : Prop := match cd with
  | .eq => i = j
  | .ne => ¬ i = j
theorem mm_acmp {cd : ClassFile.ACond} {off : Int} {tgt i j : Nat} (hd : decode (mm_cb k) pc = .ok (.if_acmp cd off, 3)) (ht : (pc : Int) + off = (tgt : Int)) (hi : i < 3) (hj : j < 3)
    (kt : mm_acd cd i j → mm_Run l X k d tgt L S σ mc ms o σ') (kf : ¬ mm_acd cd i j → mm_Run l X k d (pc + 3) L S σ mc ms o σ') :
    mm_Run l X k d pc L (.retAddr (j + 1) :: .retAddr (i + 1) :: S) σ mc ms o σ' := by
  refine mm_branch (P := mm_acd cd i j) (fun hc hL hS ht1 hf1 => ?_) kt kf
  obtain ⟨_, st, rfl, ⟨a, ha, rfl⟩, hS1⟩ := hS.cons
  obtain ⟨_, st, rfl, ⟨b, hb, rfl⟩, hS2⟩ := hS1.cons
  have hz := hc.2.2.2.2.2.2.2.2.2.1.2.2.1
  have hab : some b = some a ↔ i = j := ⟨fun q => hz i j b hi hj hb (by rw [q]; exact ha), fun q => by subst q; exact hb.symm.trans ha⟩
  cases cd
  · exact lv_acmp_eq (rx := some b) (ry := some a) hc.1 hc.2.1 hd ht (fun q => ht1 (hab.mp q) _ hS2) (fun q => hf1 (fun z => q (hab.mpr z)) _ hS2)
  · exact lv_acmp_ne (rx := some b) (ry := some a) hc.1 hc.2.1 hd ht (fun q => ht1 (fun z => q (hab.mpr z)) _ hS2) (fun q => hf1 (fun z => z (hab.mp q)) _ hS2)
/-! the memory -/
theorem mm_set_ne {α : Type} {f : Nat → Nat → α} {p i q : Nat} {x : α} (h : q ≠ p) : mm_set f p i x q = f q := by
  funext j; simp [mm_set, h]
theorem mm_set_eq {α : Type} {f : Nat → Nat → α} {p i : Nat} {x : α} : mm_set f p i x p = fun j => if j = i then x else f p j := by
  funext j; simp [mm_set]
theorem mm_C.off {φ ρ : List Nat} {cI cL : ClassId} {M M' : mm_M} {p : Nat} {kd : mm_K} {E : va_E} (h : mm_C φ ρ cI cL M p kd E) (h1 : M'.1 p = M.1 p) (h2 : M'.2 p = M.2 p) : mm_C φ ρ cI cL M' p kd E := by
  obtain ⟨t, n, rs⟩ := kd
  match t, h with
  | 0, h => exact (by rw [show E = _ from h, ← h1] : E = .inl (cI, n, .inl (M'.1 p)))
  | 1, h => exact (by rw [show E = _ from h, ← h2] : E = .inl (cL, n, .inr (.inl (M'.2 p))))
  | 2, h =>
    obtain ⟨fs, e, f1, f2⟩ := h
    refine ⟨fs, e, f1, fun j t ht => ?_⟩
    obtain ⟨w, g1, g2⟩ := f2 j t ht
    refine ⟨w, g1, ?_⟩
    match t, g2 with
    | 0, g2 => show w = .int (M'.1 p j); rw [h1]; exact g2
    | 1, g2 => show w = .long (M'.2 p j); rw [h2]; exact g2
    | t + 2, g2 => exact g2
  | t + 3, h => exact h.elim
theorem mm_W.upd {φ ρ : List Nat} {cI cL : ClassId} {Λ : List mm_K} {M M' : mm_M} {ws : va_W} {p a : Nat} {kd kd' : mm_K} {E E' : va_E} (h : mm_W φ ρ cI cL (Λ, M) ws) (hk : Λ[p]? = some kd) (hE : ws[p]? = some (a, E))
    (hoff : ∀ q, q ≠ p → M'.1 q = M.1 q ∧ M'.2 q = M.2 q) (hC : mm_C φ ρ cI cL M' p kd' E') : mm_W φ ρ cI cL (Λ.set p kd', M') (ws.set p (a, E')) := by
  obtain ⟨h1, h2, h3⟩ := h
  have hlt : p < Λ.length := (List.getElem?_eq_some_iff.mp hk).1
  refine ⟨by simpa using h1, by simpa using h2, fun q kd1 hq => ?_⟩
  by_cases hqp : q = p
  · subst hqp
    obtain ⟨a1, E1, g1, g2, -⟩ := h3 q kd hk
    have e1 : (a1, E1) = (a, E) := Option.some.inj (g2.symm.trans hE)
    cases e1
    have hkd : kd1 = kd' := by simpa [hlt] using hq.symm
    subst hkd
    exact ⟨a, E', g1, by simp [h1 ▸ hlt], hC⟩
  · have hq' : Λ[q]? = some kd1 := by
      have : (Λ.set p kd')[q]? = Λ[q]? := List.getElem?_set_ne (fun z => hqp z.symm)
      exact this.symm.trans hq
    obtain ⟨a1, E1, g1, g2, g3⟩ := h3 q kd1 hq'
    exact ⟨a1, E1, g1, by rw [List.getElem?_set_ne (fun z => hqp z.symm)]; exact g2, g3.off (hoff q hqp).1 (hoff q hqp).2⟩
theorem mm_W.same {φ ρ : List Nat} {cI cL : ClassId} {Λ : List mm_K} {M M' : mm_M} {ws : va_W} {p a : Nat} {kd : mm_K} {E E' : va_E} (h : mm_W φ ρ cI cL (Λ, M) ws) (hk : Λ[p]? = some kd) (hE : ws[p]? = some (a, E))
    (hoff : ∀ q, q ≠ p → M'.1 q = M.1 q ∧ M'.2 q = M.2 q) (hC : mm_C φ ρ cI cL M' p kd E') : mm_W φ ρ cI cL (Λ, M') (ws.set p (a, E')) := by
  have h1 := h.upd hk hE hoff hC
  have hlt := (List.getElem?_eq_some_iff.mp hk)
  obtain ⟨hl, he⟩ := hlt
  have : Λ.set p kd = Λ := by rw [← he]; exact List.set_getElem_self hl
  rw [this] at h1
  exact h1
theorem mm_W.get {φ ρ : List Nat} {cI cL : ClassId} {σ : mm_S} {ws : va_W} {p a : Nat} {kd : mm_K} (h : mm_W φ ρ cI cL σ ws) (hk : mm_kd σ.1 p = kd) (h9 : kd.1 ≠ 9) (ha : ρ[p]? = some a) : ∃ E, ws[p]? = some (a, E) ∧ mm_C φ ρ cI cL σ.2 p kd E := by
  obtain ⟨a1, E, g1, g2, g3⟩ := h.2.2 p kd (mm_kd_some hk h9)
  cases Option.some.inj (g1.symm.trans ha)
  exact ⟨E, g2, g3⟩
theorem mm_iaload {p n : Nat} {rs : List Value} {i : Int32} (hd : decode (mm_cb k) pc = .ok (.iaload, 1)) (hk : mm_kd σ.1 p = (0, n, rs)) (hin : vp_in i n) (hr : mm_Run l X k d (pc + 1) L (.int (σ.2.1 p i.toNatClampNeg) :: S) σ mc ms o σ') :
    mm_Run l X k d pc L (.int i :: .ref p :: S) σ mc ms o σ' := by
  intro pp e R s m args below meth c D A cI cL φ hc H locs cells slots ρ ws ls st hW hP hD hS hL hV h1 h2
  obtain ⟨_, st, rfl, rfl, hV1⟩ := hV.cons
  obtain ⟨_, st, rfl, ⟨a, ha, rfl⟩, hV2⟩ := hV1.cons
  obtain ⟨E, g1, g2⟩ := hW.get hk (by simp) ha
  have e1 : E = .inl (cI, n, .inl (σ.2.1 p)) := g2
  subst e1
  exact va_iald hc.1 hc.2.1 hc.2.2.2.2.2.2.2.1 hP p 0 g1 rfl hin hd (hr hc hW hP hD hS hL ⟨rfl, hV2⟩ h1 h2)
theorem mm_laload {p n : Nat} {rs : List Value} {i : Int32} (hd : decode (mm_cb k) pc = .ok (.laload, 1)) (hk : mm_kd σ.1 p = (1, n, rs)) (hin : vp_in i n) (hr : mm_Run l X k d (pc + 1) L (.long (σ.2.2 p i.toNatClampNeg) :: S) σ mc ms o σ') :
    mm_Run l X k d pc L (.int i :: .ref p :: S) σ mc ms o σ' := by
  intro pp e R s m args below meth c D A cI cL φ hc H locs cells slots ρ ws ls st hW hP hD hS hL hV h1 h2
  obtain ⟨_, st, rfl, rfl, hV1⟩ := hV.cons
  obtain ⟨_, st, rfl, ⟨a, ha, rfl⟩, hV2⟩ := hV1.cons
  obtain ⟨E, g1, g2⟩ := hW.get hk (by simp) ha
  have e1 : E = .inl (cL, n, .inr (.inl (σ.2.2 p))) := g2
  subst e1
  exact va_lald hc.1 hc.2.1 hc.2.2.2.2.2.2.2.1 hP p 1 g1 rfl hin hd (hr hc hW hP hD hS hL ⟨rfl, hV2⟩ h1 h2)
theorem mm_iastore {p n : Nat} {rs : List Value} {i x : Int32} (hd : decode (mm_cb k) pc = .ok (.iastore, 1)) (hk : mm_kd σ.1 p = (0, n, rs)) (hin : vp_in i n) (hr : mm_Run l X k d (pc + 1) L S (σ.1, mm_set σ.2.1 p i.toNatClampNeg x, σ.2.2) mc ms o σ') :
    mm_Run l X k d pc L (.int x :: .int i :: .ref p :: S) σ mc ms o σ' := by
  intro pp e R s m args below meth c D A cI cL φ hc H locs cells slots ρ ws ls st hW hP hD hS hL hV h1 h2
  obtain ⟨_, st, rfl, rfl, hV1⟩ := hV.cons
  obtain ⟨_, st, rfl, rfl, hV2⟩ := hV1.cons
  obtain ⟨_, st, rfl, ⟨a, ha, rfl⟩, hV3⟩ := hV2.cons
  obtain ⟨E, g1, g2⟩ := hW.get hk (by simp) ha
  have e1 : E = .inl (cI, n, .inl (σ.2.1 p)) := g2
  subst e1
  refine va_iast hc.1 hc.2.1 hc.2.2.2.2.2.2.2.1 hP hD hS p 0 g1 rfl hin hd (fun H1 locs1 q1 q2 q3 => ?_)
  refine hr hc (hW.same (Λ := σ.1) (M := σ.2) (mm_kd_some hk (by simp)) g1 (fun q hq => ⟨mm_set_ne hq, rfl⟩) ?_) q1 q2 q3 hL hV3 h1 h2
  show _ = _
  simp only [mm_set_eq]
  rfl
theorem mm_lastore {p n : Nat} {rs : List Value} {i : Int32} {x : Int64} (hd : decode (mm_cb k) pc = .ok (.lastore, 1)) (hk : mm_kd σ.1 p = (1, n, rs)) (hin : vp_in i n) (hr : mm_Run l X k d (pc + 1) L S (σ.1, σ.2.1, mm_set σ.2.2 p i.toNatClampNeg x) mc ms o σ') :
    mm_Run l X k d pc L (.long x :: .int i :: .ref p :: S) σ mc ms o σ' := by
  intro pp e R s m args below meth c D A cI cL φ hc H locs cells slots ρ ws ls st hW hP hD hS hL hV h1 h2
  obtain ⟨_, st, rfl, rfl, hV1⟩ := hV.cons
  obtain ⟨_, st, rfl, rfl, hV2⟩ := hV1.cons
  obtain ⟨_, st, rfl, ⟨a, ha, rfl⟩, hV3⟩ := hV2.cons
  obtain ⟨E, g1, g2⟩ := hW.get hk (by simp) ha
  have e1 : E = .inl (cL, n, .inr (.inl (σ.2.2 p))) := g2
  subst e1
  refine va_last hc.1 hc.2.1 hc.2.2.2.2.2.2.2.1 hP hD hS p 1 g1 rfl hin hd (fun H1 locs1 q1 q2 q3 => ?_)
  refine hr hc (hW.same (Λ := σ.1) (M := σ.2) (mm_kd_some hk (by simp)) g1 (fun q hq => ⟨rfl, mm_set_ne hq⟩) ?_) q1 q2 q3 hL hV3 h1 h2
  show _ = _
  simp only [mm_set_eq]
  rfl
theorem mm_scload {i : Int32} (hd : decode (mm_cb k) pc = .ok (.iaload, 1)) (hin : vp_in i X.1) (hr : mm_Run l X k d (pc + 1) L (.int (X.2 i.toNatClampNeg) :: S) σ mc ms o σ') :
    mm_Run l X k d pc L (.int i :: .retAddr 0 :: S) σ mc ms o σ' := by
  intro pp e R s m args below meth c D A cI cL φ hc H locs cells slots ρ ws ls st hW hP hD hS hL hV h1 h2
  obtain ⟨_, st, rfl, rfl, hV1⟩ := hV.cons
  obtain ⟨_, st, rfl, ⟨a, ha, rfl⟩, hV2⟩ := hV1.cons
  obtain ⟨b, g1, g2, g3, g4⟩ := hc.2.2.2.2.2.2.2.2.2.1.1
  cases Option.some.inj (g1.symm.trans ha)
  exact va_sld hc.1 hc.2.1 g2 g4 g3 hS hin hd (hr hc hW hP hD hS hL ⟨rfl, hV2⟩ h1 h2)
theorem mm_sclen (hd : decode (mm_cb k) pc = .ok (.arraylength, 1)) (hr : mm_Run l X k d (pc + 1) L (.int (Int32.ofNat X.1) :: S) σ mc ms o σ') :
    mm_Run l X k d pc L (.retAddr 0 :: S) σ mc ms o σ' := by
  intro pp e R s m args below meth c D A cI cL φ hc H locs cells slots ρ ws ls st hW hP hD hS hL hV h1 h2
  obtain ⟨_, st, rfl, ⟨a, ha, rfl⟩, hV1⟩ := hV.cons
  obtain ⟨b, g1, g2, g3, g4⟩ := hc.2.2.2.2.2.2.2.2.2.1.1
  cases Option.some.inj (g1.symm.trans ha)
  exact va_slen hc.1 hc.2.1 g2 g4 g3 hS hd (hr hc hW hP hD hS hL ⟨rfl, hV1⟩ h1 h2)
theorem mm_getstatic {idx j : Nat} (hd : decode (mm_cb k) pc = .ok (.getstatic idx, 3)) (hj : j < 3) (hl : Cond.fieldLink (mm_yn k).cls idx mm_oc (mm_on j) mm_od ∈ mm_tb) (hr : mm_Run l X k d (pc + 3) L (.retAddr (j + 1) :: S) σ mc ms o σ') :
    mm_Run l X k d pc L S σ mc ms o σ' := by
  intro pp e R s m args below meth c D A cI cL φ hc H locs cells slots ρ ws ls st hW hP hD hS hL hV h1 h2
  obtain ⟨a, ha, hz⟩ := hc.2.2.2.2.2.2.2.2.2.1.2.1 j hj
  exact va_gets hc.1 hc.2.1 hz hS hc.2.2.2.2.2.1 (hc.2.2.2.2.2.2.1 _ hl) (fun x h => h) hd (hr hc hW hP hD hS hL ⟨⟨a, ha, rfl⟩, hV⟩ h1 h2)
/-! fields -/
def mm_tk : FieldType → Nat
  | .int => 0
  | .long => 1
  | .object _ => 2
  | .array _ => 2
  | _ => 7
def mm_okc (ci : Nat) : Prop := ∃ (C : String) (T : u_T) (N : Nat), mm_cl[ci]? = some (C, T, N) ∧ N = (mm_fk ci).length ∧ (∀ w ∈ u_ws C T N, w ∈ mm_tb) ∧
  (∃ ty0 : Nat → FieldType, ∀ j, j < N → parseFieldDescriptor (T j).2.2.1 = some (ty0 j) ∧ (mm_fk ci)[j]? = some (mm_tk (ty0 j)) ∧ mm_tk (ty0 j) < 3) ∧ (∀ a, a < N → ∀ b, b < N → a ≠ b → (T a).2.1 ≠ (T b).2.1)
def mm_okf (k idx ci j : Nat) : Prop := ∃ (C : String) (T : u_T) (N : Nat), mm_cl[ci]? = some (C, T, N) ∧ j < N ∧ Cond.fieldLink (mm_yn k).cls idx (T j).1 (T j).2.1 (T j).2.2.1 ∈ mm_tb
def mm_okp (k ci j : Nat) : Prop := ∀ (C : String) (T : u_T) (N : Nat), mm_cl[ci]? = some (C, T, N) → ((T j).2.2.2 = false ∨ ((T j).2.2.2 = true ∧ (mm_yn k).name = "<init>" ∧ (T j).1 = (mm_yn k).cls))
def mm_fv (M : mm_M) (p ci j : Nat) (rs : List Value) : Value := match (mm_fk ci)[j]? with
  | some 0 => .int (M.1 p j)
  | some 1 => .long (M.2 p j)
  | some _ => mm_nth rs j
  | none => .null
theorem mm_getfield {idx p ci j : Nat} {rs : List Value} {v : Value} (hd : decode (mm_cb k) pc = .ok (.getfield idx, 3)) (hc0 : mm_okc ci) (hf : mm_okf k idx ci j) (hk : mm_kd σ.1 p = (2, ci, rs)) (hv : mm_fv σ.2 p ci j rs = v) (hn : v ≠ .null)
    (hr : mm_Run l X k d (pc + 3) L (v :: S) σ mc ms o σ') : mm_Run l X k d pc L (.ref p :: S) σ mc ms o σ' := by
  intro pp e R s m args below meth c D A cI cL φ hc H locs cells slots ρ ws ls st hW hP hD hS hL hV h1 h2
  obtain ⟨_, st, rfl, ⟨a, ha, rfl⟩, hV1⟩ := hV.cons
  obtain ⟨E, g1, g2⟩ := hW.get hk (by simp) ha
  obtain ⟨fs, e1, f1, f2⟩ := g2
  subst e1
  obtain ⟨C, T, N, c1, c2, c3, -⟩ := hc0
  obtain ⟨C', T', N', d1, d2, d3⟩ := hf
  cases Option.some.inj (c1.symm.trans d1)
  have hj : j < (mm_fk ci).length := by omega
  obtain ⟨w, w1, w2⟩ := f2 j _ (List.getElem?_eq_getElem hj)
  have hvw : mm_V φ ρ v w := by
    subst hv
    unfold mm_fv at hn ⊢
    rw [List.getElem?_eq_getElem hj] at hn ⊢
    generalize (mm_fk ci)[j] = t at hn w2 ⊢
    match t, hn, w2 with
    | 0, _, w2 => exact w2
    | 1, _, w2 => exact w2
    | t + 2, hn, w2 => exact w2 hn
  exact va_get hc.1 hc.2.1 hc.2.2.2.2.2.2.1 c3 hc.2.2.2.2.2.1 hc.2.2.2.2.2.2.2.1 hP p g1 c1 j d2 (hc.2.2.2.2.2.2.1 _ d3) (fun x h => h) w1 hd (hr hc hW hP hD hS hL ⟨hvw, hV1⟩ h1 h2)
def mm_pv (σ : mm_S) (p ci j : Nat) (rs : List Value) (v : Value) : mm_S := match v with
  | .int x => (σ.1, mm_set σ.2.1 p j x, σ.2.2)
  | .long x => (σ.1, σ.2.1, mm_set σ.2.2 p j x)
  | v => (σ.1.set p (2, ci, rs.set j v), σ.2)
def mm_vk : Value → Nat
  | .int _ => 0
  | .long _ => 1
  | .ref _ => 2
  | .retAddr _ => 2
  | _ => 8
theorem mm_nth_set {rs : List Value} {j i : Nat} {v : Value} (h : j < rs.length) : mm_nth (rs.set j v) i = if i = j then v else mm_nth rs i := by
  induction rs generalizing j i with
  | nil => simp at h
  | cons x rs ih =>
    cases j with
    | zero => cases i <;> simp [mm_nth]
    | succ j =>
      cases i with
      | zero => simp [mm_nth]
      | succ i => simpa [mm_nth] using ih (j := j) (i := i) (by simpa using h)
theorem mm_putfield {idx p ci j : Nat} {rs : List Value} {v : Value} (hd : decode (mm_cb k) pc = .ok (.putfield idx, 3)) (hc0 : mm_okc ci) (hf : mm_okf k idx ci j) (hpu : mm_okp k ci j) (hk : mm_kd σ.1 p = (2, ci, rs)) (hv : (mm_fk ci)[j]? = some (mm_vk v)) (hrl : rs.length = (mm_fk ci).length)
    (hr : mm_Run l X k d (pc + 3) L S (mm_pv σ p ci j rs v) mc ms o σ') : mm_Run l X k d pc L (v :: .ref p :: S) σ mc ms o σ' := by
  intro pp e R s m args below meth c D A cI cL φ hc H locs cells slots ρ ws ls st hW hP hD hS hL hV h1 h2
  obtain ⟨w, st, rfl, hw, hV1⟩ := hV.cons
  obtain ⟨_, st, rfl, ⟨a, ha, rfl⟩, hV2⟩ := hV1.cons
  obtain ⟨E, g1, g2⟩ := hW.get hk (by simp) ha
  obtain ⟨fs, e1, f1, f2⟩ := g2
  subst e1
  obtain ⟨C, T, N, c1, c2, c3, ⟨ty0, c4⟩, c5⟩ := hc0
  obtain ⟨C', T', N', d1, d2, d3⟩ := hf
  cases Option.some.inj (c1.symm.trans d1)
  have hj : j < (mm_fk ci).length := by omega
  obtain ⟨t1, t2, -⟩ := c4 j d2
  have htk : mm_tk (ty0 j) = mm_vk v := Option.some.inj (t2.symm.trans hv)
  have hnf : narrow (ty0 j) w = w ∧ fits (ty0 j) w = true := by
    generalize ty0 j = ty at htk
    cases v <;> simp only [mm_vk] at htk <;> cases ty <;> simp only [mm_tk] at htk <;> first | (exact absurd htk (by decide)) | (obtain ⟨b, -, rfl⟩ := hw; exact ⟨rfl, rfl⟩) | (cases hw; exact ⟨rfl, rfl⟩)
  have hend : ∀ (H1 : Heap) (locs1 : List Loc), va_P D mm_cl (ws.set p (a, .inr (ci, fs.set j w))) H1 → va_D A (ws.set p (a, .inr (ci, fs.set j w))) → va_S A s.heap H1 locs1 → W pp l e R s m args below meth c H1 locs1 cells slots (mm_Q φ ρ D A cI cL below s (cells + mc) (slots + ms) o σ') (F0 m (pc + 3) ls st) := by
    intro H1 locs1 q1 q2 q3
    refine hr hc ?_ q1 q2 q3 hL hV2 h1 h2
    have hkd := mm_kd_some hk (by simp)
    have hold : ∀ (M' : mm_M) (rs' : List Value), (∀ i t, (mm_fk ci)[i]? = some t → i ≠ j → (match t with | 0 => M'.1 p i = σ.2.1 p i | 1 => M'.2 p i = σ.2.2 p i | _ => mm_nth rs' i = mm_nth rs i)) →
        (match mm_vk v with | 0 => w = .int (M'.1 p j) | 1 => w = .long (M'.2 p j) | _ => mm_nth rs' j ≠ .null → mm_V φ ρ (mm_nth rs' j) w) → mm_C φ ρ cI cL M' p (2, ci, rs') (.inr (ci, fs.set j w)) := by
      intro M' rs' ho hn
      refine ⟨fs.set j w, rfl, by simpa using f1, fun i t ht => ?_⟩
      by_cases hij : i = j
      · subst hij
        have htv : t = mm_vk v := Option.some.inj (ht.symm.trans hv)
        subst htv
        exact ⟨w, by simp [f1, hj], hn⟩
      · obtain ⟨w1, x1, x2⟩ := f2 i t ht
        refine ⟨w1, by rw [List.getElem?_set_ne (fun z => hij z.symm)]; exact x1, ?_⟩
        have hoo := ho i t ht hij
        match t, x2, hoo with
        | 0, x2, hoo => exact x2.trans (by rw [hoo])
        | 1, x2, hoo => exact x2.trans (by rw [hoo])
        | t + 2, x2, hoo => intro hnn; rw [show mm_nth rs' i = mm_nth rs i from hoo] at hnn ⊢; exact x2 hnn
    cases v with
    | int x =>
      cases hw
      refine hW.same (Λ := σ.1) (M := σ.2) hkd g1 (fun q hq => ⟨mm_set_ne hq, rfl⟩) (hold _ rs ?_ ?_)
      · intro i t _ hij
        match t with
        | 0 => show mm_set σ.2.1 p j x p i = _; simp [mm_set, hij]
        | 1 => rfl
        | t + 2 => rfl
      · show Value.int x = .int (mm_set σ.2.1 p j x p j); simp [mm_set]
    | long x =>
      cases hw
      refine hW.same (Λ := σ.1) (M := σ.2) hkd g1 (fun q hq => ⟨rfl, mm_set_ne hq⟩) (hold _ rs ?_ ?_)
      · intro i t _ hij
        match t with
        | 0 => rfl
        | 1 => show mm_set σ.2.2 p j x p i = _; simp [mm_set, hij]
        | t + 2 => rfl
      · show Value.long x = .long (mm_set σ.2.2 p j x p j); simp [mm_set]
    | ref x =>
      refine hW.upd (Λ := σ.1) (M := σ.2) hkd g1 (fun q hq => ⟨rfl, rfl⟩) (hold _ _ ?_ ?_)
      · intro i t _ hij
        match t with
        | 0 => rfl
        | 1 => rfl
        | t + 2 => show mm_nth _ i = _; rw [mm_nth_set (by omega), if_neg hij]
      · show _ → _; rw [mm_nth_set (by omega), if_pos rfl]; exact fun _ => hw
    | retAddr x =>
      refine hW.upd (Λ := σ.1) (M := σ.2) hkd g1 (fun q hq => ⟨rfl, rfl⟩) (hold _ _ ?_ ?_)
      · intro i t _ hij
        match t with
        | 0 => rfl
        | 1 => rfl
        | t + 2 => show mm_nth _ i = _; rw [mm_nth_set (by omega), if_neg hij]
      · show _ → _; rw [mm_nth_set (by omega), if_pos rfl]; exact fun _ => hw
    | _ =>
      exfalso
      generalize ty0 j = ty at htk
      cases ty <;> simp [mm_tk, mm_vk] at htk
  rcases hpu C T N c1 with hfi | ⟨hfi, hin, hdc⟩
  · exact va_put hc.1 hc.2.1 hc.2.2.2.2.2.2.1 c3 ty0 (fun i hi => (c4 i hi).1) c5 hc.2.2.2.2.2.1 hc.2.2.2.2.2.2.2.1 hP hD hS p g1 c1 j d2 (hc.2.2.2.2.2.2.1 _ d3) (fun x h => h) hfi t1 hnf.1 hnf.2 (by omega) hd hend
  · exact va_putF hc.1 hc.2.1 hc.2.2.2.2.2.2.1 c3 ty0 (fun i hi => (c4 i hi).1) c5 hc.2.2.2.2.2.1 hc.2.2.2.2.2.2.2.1 hP hD hS p g1 c1 j d2 (hc.2.2.2.2.2.2.1 _ d3) (fun x h => h) hfi (hc.2.2.2.2.2.2.2.2.2.2.2.2.1.trans hin) hdc t1 hnf.1 hnf.2 (by omega) hd hend
end MM
