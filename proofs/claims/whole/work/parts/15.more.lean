/-! ===== constants, switches, making cells, constructors, methods with handlers ===== -/
section MMN
variable {l : Launch} {X : Nat × (Nat → Int32)} {k d pc : Nat} {L S : List Value} {σ σ1 σ' : mm_S} {mc ms mc1 ms1 : Nat} {o : mm_O}
theorem mm_ldc2 {idx : Nat} {v : Int64} (hd : decode (mm_cb k) pc = .ok (.ldc2_w idx, 3)) (hw : Cond.constantLong (mm_yn k).cls idx v ∈ mm_tb) (hr : mm_Run l X k d (pc + 3) L (.long v :: S) σ mc ms o σ') : mm_Run l X k d pc L S σ mc ms o σ' := by
  refine mm_simple (fun hc hL hS kk => ?_) hr
  exact W.ldc2 hc.1 hc.2.1 hc.2.2.2.2.2.1 (hc.2.2.2.2.2.2.1 _ hw) rfl hd (kk _ _ hL ⟨rfl, hS⟩)
theorem mm_tableIn {dflt lo hi : Int} {offs : Array Int} {len : Nat} {x : Int32} {off : Int} {tgt : Nat} (hd : decode (mm_cb k) pc = .ok (.tableswitch dflt lo hi offs, len)) (h1 : ¬ x.toInt < lo) (h2 : ¬ hi < x.toInt) (ho : offs[(x.toInt - lo).toNat]? = some off) (ht : (pc : Int) + off = (tgt : Int))
    (hr : mm_Run l X k d tgt L S σ mc ms o σ') : mm_Run l X k d pc L (.int x :: S) σ mc ms o σ' := by
  refine mm_simple (fun hc hL hS kk => ?_) hr
  obtain ⟨_, st, rfl, rfl, hS1⟩ := hS.cons
  exact lv_tableIn hc.1 hc.2.1 hd h1 h2 ho ht (kk _ _ hL hS1)
theorem mm_tableOut {dflt lo hi : Int} {offs : Array Int} {len : Nat} {x : Int32} {tgt : Nat} (hd : decode (mm_cb k) pc = .ok (.tableswitch dflt lo hi offs, len)) (h : x.toInt < lo ∨ hi < x.toInt) (ht : (pc : Int) + dflt = (tgt : Int))
    (hr : mm_Run l X k d tgt L S σ mc ms o σ') : mm_Run l X k d pc L (.int x :: S) σ mc ms o σ' := by
  refine mm_simple (fun hc hL hS kk => ?_) hr
  obtain ⟨_, st, rfl, rfl, hS1⟩ := hS.cons
  exact lv_tableOut hc.1 hc.2.1 hd h ht (kk _ _ hL hS1)
theorem mm_lookup {dflt : Int} {ps : Array (Int × Int)} {len : Nat} {x : Int32} {off : Int} {tgt : Nat} (hd : decode (mm_cb k) pc = .ok (.lookupswitch dflt ps, len)) (hp : (ps.toList.zip (ps.toList.drop 1)).all (fun (a, next) => a.1 < next.1) = true) (ho : Op.lookupswitch.offset ps.toList dflt x.toInt = off) (ht : (pc : Int) + off = (tgt : Int))
    (hr : mm_Run l X k d tgt L S σ mc ms o σ') : mm_Run l X k d pc L (.int x :: S) σ mc ms o σ' := by
  refine mm_simple (fun hc hL hS kk => ?_) hr
  obtain ⟨_, st, rfl, rfl, hS1⟩ := hS.cons
  exact lv_lookup hc.1 hc.2.1 hd hp ho ht (kk _ _ hL hS1)
/-! cells that are made -/
theorem mm_C.mono {φ ρ δ : List Nat} {cI cL : ClassId} {M : mm_M} {p : Nat} {kd : mm_K} {E : va_E} (h : mm_C φ ρ cI cL M p kd E) : mm_C φ (ρ ++ δ) cI cL M p kd E := by
  obtain ⟨t, n, rs⟩ := kd
  match t, h with
  | 0, h => exact h
  | 1, h => exact h
  | 2, h =>
    obtain ⟨fs, e, f1, f2⟩ := h
    refine ⟨fs, e, f1, fun j t ht => ?_⟩
    obtain ⟨w, g1, g2⟩ := f2 j t ht
    refine ⟨w, g1, ?_⟩
    match t, g2 with
    | 0, g2 => exact g2
    | 1, g2 => exact g2
    | t + 2, g2 => exact fun hn => (g2 hn).mono
  | t + 3, h => exact h.elim
theorem mm_W.push {φ ρ : List Nat} {cI cL : ClassId} {Λ : List mm_K} {M M' : mm_M} {ws : va_W} {q : Nat} {kd : mm_K} {E : va_E} (h : mm_W φ ρ cI cL (Λ, M) ws) (hoff : ∀ p, p ≠ Λ.length → M'.1 p = M.1 p ∧ M'.2 p = M.2 p) (hC : mm_C φ (ρ ++ [q]) cI cL M' Λ.length kd E) :
    mm_W φ (ρ ++ [q]) cI cL (Λ ++ [kd], M') (ws ++ [(q, E)]) := by
  obtain ⟨h1, h2, h3⟩ := h
  dsimp only at h1 h2 h3
  refine ⟨by simp [h1], by simp [h2], fun p kd1 hp => ?_⟩
  by_cases hlt : p < Λ.length
  · have hp' : Λ[p]? = some kd1 := by
      have : (Λ ++ [kd])[p]? = Λ[p]? := List.getElem?_append_left hlt
      exact this.symm.trans hp
    obtain ⟨a, E1, g1, g2, g3⟩ := h3 p kd1 hp'
    refine ⟨a, E1, ?_, ?_, (g3.off (hoff p (by omega)).1 (hoff p (by omega)).2).mono⟩
    · rw [List.getElem?_append_left (by omega)]; exact g1
    · rw [List.getElem?_append_left (by omega)]; exact g2
  · have hlen : p < (Λ ++ [kd]).length := (List.getElem?_eq_some_iff.mp hp).1
    have hpe : p = Λ.length := by simp at hlen; omega
    subst hpe
    have hk : kd1 = kd := by simpa using hp.symm
    subst hk
    exact ⟨q, E, by simp [← h2], by simp [← h1], hC⟩
theorem mm_row_ne {α : Type} {f : Nat → Nat → α} {p q : Nat} {g : Nat → α} (h : q ≠ p) : mm_row f p g q = f q := by
  funext j; simp [mm_row, h]
theorem mm_row_eq {α : Type} {f : Nat → Nat → α} {p : Nat} {g : Nat → α} : mm_row f p g p = g := by
  funext j; simp [mm_row]
theorem mm_newi {n : Int32} {N : Nat} (hd : decode (mm_cb k) pc = .ok (.newarray .int, 2)) (hw : Cond.arrayClass .int ∈ mm_tb) (hn : ¬ n < 0) (hN : n.toNatClampNeg = N) (hb : N ≤ 100000)
    (hr : mm_Run l X k d (pc + 2) L (.ref σ.1.length :: S) (σ.1 ++ [(0, N, [])], mm_row σ.2.1 σ.1.length (fun _ => 0), σ.2.2) mc ms o σ') : mm_Run l X k d pc L (.int n :: S) σ (1 + mc) (N + ms) o σ' := by
  intro pp e R s m args below meth c D A cI cL φ hc H locs cells slots ρ ws ls st hW hP hD hS hL hV h1 h2
  obtain ⟨_, st, rfl, rfl, hV1⟩ := hV.cons
  refine va_newa (atype := .int) (ty := .int) (a0 := (N, .inl (fun _ => 0))) hc.1 hc.2.1 (hc.2.2.2.2.2.2.1 _ hw) rfl hc.2.2.2.2.2.2.2.1 hP hD hS hc.2.2.2.2.2.2.2.2.1 (fun cA => rfl) hn hN (by show N * 4 ≤ 536870912; omega) (by omega) (by omega) hd ?_
  intro q cA H1 z1 z2 z3 z4
  have hcA : cA = cI := by
    have e1 := (z1.2 2 (cA, .int) rfl).2
    have e2 := (hc.2.2.2.2.2.2.2.1.2 0 (cI, .int) rfl).2
    exact Option.some.inj (e1.symm.trans e2)
  subst hcA
  refine mm_Wmono (fun t h => h.ext (δ := [q]) (by omega) (by omega)) (hr hc (hW.push (Λ := σ.1) (M := σ.2) (q := q) (fun p hp => ⟨mm_row_ne hp, rfl⟩) ?_) z2 z3 z4 hL.mono ⟨?_, hV1.mono⟩ (by omega) (by omega))
  · show _ = _
    simp only [mm_row_eq]
  · exact ⟨q, by simp [← hW.2.1], rfl⟩
theorem mm_newl {n : Int32} {N : Nat} (hd : decode (mm_cb k) pc = .ok (.newarray .long, 2)) (hw : Cond.arrayClass .long ∈ mm_tb) (hn : ¬ n < 0) (hN : n.toNatClampNeg = N) (hb : N ≤ 100000)
    (hr : mm_Run l X k d (pc + 2) L (.ref σ.1.length :: S) (σ.1 ++ [(1, N, [])], σ.2.1, mm_row σ.2.2 σ.1.length (fun _ => 0)) mc ms o σ') : mm_Run l X k d pc L (.int n :: S) σ (1 + mc) (N + ms) o σ' := by
  intro pp e R s m args below meth c D A cI cL φ hc H locs cells slots ρ ws ls st hW hP hD hS hL hV h1 h2
  obtain ⟨_, st, rfl, rfl, hV1⟩ := hV.cons
  refine va_newa (atype := .long) (ty := .long) (a0 := (N, .inr (.inl (fun _ => 0)))) hc.1 hc.2.1 (hc.2.2.2.2.2.2.1 _ hw) rfl hc.2.2.2.2.2.2.2.1 hP hD hS hc.2.2.2.2.2.2.2.2.1 (fun cA => rfl) hn hN (by show N * 8 ≤ 536870912; omega) (by omega) (by omega) hd ?_
  intro q cA H1 z1 z2 z3 z4
  have hcA : cA = cL := by
    have e1 := (z1.2 2 (cA, .long) rfl).2
    have e2 := (hc.2.2.2.2.2.2.2.1.2 1 (cL, .long) rfl).2
    exact Option.some.inj (e1.symm.trans e2)
  subst hcA
  refine mm_Wmono (fun t h => h.ext (δ := [q]) (by omega) (by omega)) (hr hc (hW.push (Λ := σ.1) (M := σ.2) (q := q) (fun p hp => ⟨rfl, mm_row_ne hp⟩) ?_) z2 z3 z4 hL.mono ⟨?_, hV1.mono⟩ (by omega) (by omega))
  · show _ = _
    simp only [mm_row_eq]
  · exact ⟨q, by simp [← hW.2.1], rfl⟩
theorem mm_nth_rep : ∀ (n j : Nat), mm_nth (List.replicate n .null) j = .null
  | 0, _ => rfl
  | _ + 1, 0 => rfl
  | n + 1, j + 1 => mm_nth_rep n j
def mm_df : Nat → Value
  | 0 => .int 0
  | 1 => .long 0
  | _ => .null
theorem mm_new {idx ci : Nat} {C : String} {T : u_T} {N : Nat} (hd : decode (mm_cb k) pc = .ok (.new idx, 3)) (hc0 : mm_okc ci) (hci : mm_cl[ci]? = some (C, T, N)) (w1 : Cond.classLink (mm_yn k).cls idx C ∈ mm_tb) (w2 : Cond.instantiable C N ∈ mm_tb) (w3 : Cond.initialized C ∈ mm_tb)
    (hr : mm_Run l X k d (pc + 3) L (.ref σ.1.length :: S) (σ.1 ++ [(2, ci, List.replicate N .null)], mm_row σ.2.1 σ.1.length (fun _ => 0), mm_row σ.2.2 σ.1.length (fun _ => 0)) mc ms o σ') : mm_Run l X k d pc L S σ (1 + mc) (N + ms) o σ' := by
  intro pp e R s m args below meth c D A cI cL φ hc H locs cells slots ρ ws ls st hW hP hD hS hL hV h1 h2
  have hts := hc.2.2.2.2.2.2.1
  obtain ⟨C', T', N', c1, c2, c3, ⟨ty0, c4⟩, c5⟩ := hc0
  cases Option.some.inj (c1.symm.trans hci)
  refine va_new (fs := (mm_fk ci).map mm_df) hc.1 hc.2.1 hts c3 ty0 (fun j hj => (c4 j hj).1) hc.2.2.2.2.2.1 (hts _ w1) (hts _ w2) (hts _ w3) hc.2.2.2.2.2.2.2.1 hP hD hS hc.2.2.2.2.2.2.2.2.1 hci (fun j hj => ?_) (by omega) (by omega) hd ?_
  · obtain ⟨-, h4, h5⟩ := c4 j hj
    unfold vp_V
    rw [List.getD_eq_getElem?_getD, List.getElem?_map, h4]
    generalize ty0 j = ty at h5
    cases ty <;> first | rfl | (exact absurd h5 (by simp [mm_tk]))
  intro q H1 z2 z3 z4
  refine mm_Wmono (fun t h => h.ext (δ := [q]) (by omega) (by omega)) (hr hc (hW.push (Λ := σ.1) (M := σ.2) (q := q) (fun p hp => ⟨mm_row_ne hp, mm_row_ne hp⟩) ?_) z2 z3 z4 hL.mono ⟨?_, hV.mono⟩ (by omega) (by omega))
  · refine ⟨_, rfl, by simp, fun j t ht => ⟨mm_df t, by simp [ht], ?_⟩⟩
    match t with
    | 0 => show Value.int 0 = .int (mm_row σ.2.1 σ.1.length (fun _ => 0) σ.1.length j); rw [mm_row_eq]
    | 1 => show Value.long 0 = .long (mm_row σ.2.2 σ.1.length (fun _ => 0) σ.1.length j); rw [mm_row_eq]
    | t + 2 =>
      intro hn
      exact absurd (mm_nth_rep N j) hn
  · exact ⟨q, by simp [← hW.2.1], rfl⟩
theorem mm_objinit {idx p0 : Nat} (hd : decode (mm_cb k) pc = .ok (.invokespecial idx, 3)) (w1 : Cond.methodLink (mm_yn k).cls idx Lib.objectInit ∈ mm_tb) (w2 : Cond.instanceMethod Lib.objectInit ∈ mm_tb) (w3 : Cond.code Lib.objectInit ⟨#[0xb1]⟩ 1 none ∈ mm_tb) (hw : (S.map fun v => v.category).sum ≤ 8)
    (hr : mm_Run l X k d (pc + 3) L S σ mc ms o σ') : mm_Run l X k d pc L (.ref p0 :: S) σ mc ms o σ' := by
  refine mm_simple (fun hc hL hS kk => ?_) hr
  obtain ⟨_, st, rfl, ⟨a, ha, rfl⟩, hS1⟩ := hS.cons
  have hts := hc.2.2.2.2.2.2.1
  refine W.objInit hc.1 hc.2.1 hc.2.2.2.2.2.1 (hts _ w1) (hts _ w2) (hts _ w3) rfl (hL.1.1.trans hc.2.2.1.symm) rfl hd (by have := hc.2.2.2.2.2.2.2.2.2.2.1; omega) ?_ (kk _ _ hL hS1)
  have := hc.2.2.2.2.2.2.2.2.2.2.2.1
  rw [hS1.cats]
  show 2 * 0 + _ + 12 ≤ _
  omega
theorem mm_callIN {k' idx n p0 : Nat} {as S0 : List Value} {host : String} (hd : decode (mm_cb k) pc = .ok (.invokespecial idx, 3)) (hm : mm_okm k' n) (hl : Cond.methodLinkNest (mm_yn k).cls idx (mm_yn k') host ∈ mm_tb) (hi : Cond.instanceMethod (mm_yn k') ∈ mm_tb)
    (hy : (mm_yn k').name = "<init>") (hrt : mm_rt k' = none) (hst : S0 = as.reverse ++ .ref p0 :: S) (hn : as.length = n) (hcat : ((Value.ref p0 :: as).map fun v => v.category).sum ≤ mm_ml k') (hw : (S.map fun v => v.category).sum ≤ 8)
    (hcall : mm_Call l X k' d (.ref p0 :: as) σ mc1 ms1 (.inl none) σ1) (hr : mm_Run l X k (d + 1) (pc + 3) L S σ1 mc ms o σ') : mm_Run l X k (d + 1) pc L S0 σ (mc1 + mc) (ms1 + ms) o σ' := by
  intro p e R s m args below meth c D A cI cL φ hc H locs cells slots ρ ws ls st hW hP hD hS hL hV h1 h2
  subst hst
  obtain ⟨ar, rest0, rfl, va1, va2⟩ := hV.split
  obtain ⟨_, rest, rfl, hb0, va2n⟩ := va2.cons
  obtain ⟨b, hb, rfl⟩ := id hb0
  have hva := va1.rev
  rw [List.reverse_reverse] at hva
  have hM := mm_met (D := D) (A := A) hm.2.2.2.2.2.2 hcat hc.2.2.2.2.2.2.2.2.2.2.2.2.2.2 hcall (avr := .ref b :: ar.reverse) ⟨hb0, hva⟩ hW
  have hcb := mm_callBN (mc1 := mc1) (ms1 := ms1) hc hm hl
  rw [hrt] at hcb
  refine mm_goes (va_runIN (b := b) ⟨hc.1, hc.2.1, hc.2.2.1, hc.2.2.2.2.2.1, hc.2.2.2.2.2.2.1⟩ hM ⟨hcb, hy, hc.2.2.2.2.2.2.1 _ hi⟩ (mm_pre hc hP hD hS) rfl (by rw [hva.len, hn]) hL.1.1 (by rw [List.reverse_reverse]) (by rw [va2n.cats]; simpa using hw) hd ⟨by omega, by omega⟩) hS ?_
  intro δ ws' H1 locs1 vr q1 q2 q3 q4 q5
  refine mm_Wmono (fun t h => h.ext (δ := δ) (by omega) (by omega)) (hr hc q1 q2 q3 q4 hL.mono ?_ (by omega) (by omega))
  cases vr <;> first | exact q5.elim | exact va2n.mono
/-- a static method with handlers -/
theorem mm_callSW {k' idx n : Nat} {as S0 : List Value} {v : Option Value} (hd : decode (mm_cb k) pc = .ok (.invokestatic idx, 3)) (m1 : Cond.codeWith (mm_yn k') (mm_cb k') (mm_ml k') (mm_rt k') (mm_ht k') ∈ mm_tb) (m2 : Cond.initialized (mm_yn k').cls ∈ mm_tb) (m3 : (mm_yn k').cls ≠ "java/lang/invoke/MethodHandle" ∧ (mm_yn k').cls ≠ "java/lang/invoke/VarHandle")
    (m5 : (parseMethodDescriptor (mm_yn k').desc).map (fun d => d.parameters.length) = some n) (m6 : mm_ml k' ≤ 60) (m7 : mm_is k') (hl : Cond.methodLink (mm_yn k).cls idx (mm_yn k') ∈ mm_tb) (hs : Cond.static (mm_yn k') ∈ mm_tb)
    (hst : S0 = as.reverse ++ S) (hn : as.length = n) (hcat : (as.map fun v => v.category).sum ≤ mm_ml k') (hw : (S.map fun v => v.category).sum ≤ 8)
    (hcall : mm_Call l X k' d as σ mc1 ms1 (.inl v) σ1) (hr : mm_Run l X k (d + 1) (pc + 3) L (v.toList ++ S) σ1 mc ms o σ') : mm_Run l X k (d + 1) pc L S0 σ (mc1 + mc) (ms1 + ms) o σ' := by
  intro p e R s m args below meth c D A cI cL φ hc H locs cells slots ρ ws ls st hW hP hD hS hL hV h1 h2
  subst hst
  obtain ⟨ar, rest, rfl, va1, va2⟩ := hV.split
  have hva := va1.rev
  rw [List.reverse_reverse] at hva
  have hM := mm_met (D := D) (A := A) m7 hcat hc.2.2.2.2.2.2.2.2.2.2.2.2.2.2 hcall hva hW
  have hts := hc.2.2.2.2.2.2.1
  have hpre := mm_pre (avr := ar.reverse) hc hP hD hS
  have a11 := hc.2.2.2.2.2.2.2.2.2.2.1
  have a12 := hc.2.2.2.2.2.2.2.2.2.2.2.1
  have hwd : ∀ w ∈ mm_tb, ∀ (a' : Array Value) (U : State), s.WarmedH U.vm → w.before a' U = true := fun w h a' U hU => mm_wm (List.mem_filter.mp h).2 hU (hts w h)
  have hK : Back l R p e below s args (mm_yn k') 3 8 (PreOf R mc1 ms1 (mm_P X φ D A cI cL ws ar.reverse)) (PostOf (mm_QO φ ρ D A cI cL (.inl v) σ1) mc1 ms1 A) :=
    va_backW (bytes := mm_cb k') (maxL := mm_ml k') (ret := mm_rt k') (hh := mm_ht k') hM hpre.1 rfl rfl (by rw [mm_rm_f]; omega) (by rw [mm_rm_l]; exact mm_ar m6 a12) hwd m1 (fun a' U hU => hwd _ m2 a' U hU)
  obtain ⟨mk, methM, cM, hnamed, hmethM, -, -, -, -, -, -, hsigM⟩ := Cond.codeWith_spec (hts _ m1)
  have hstatic : methM.isStatic = true := Cond.static_spec hnamed hmethM (hts _ hs)
  obtain ⟨kP, hkP, -⟩ := className_of_methodNamed hnamed
  have hinitP : kP.init = .initialized := Cond.initialized_spec (findClass_of_methodNamed hnamed) hkP (hts _ m2)
  have hlen : ar.reverse.length = methM.sig.parameters.length := by
    rw [hva.len, hn]; rw [hsigM] at m5; exact (Option.some.inj m5).symm
  have hrun : va_Run p l e R s m args below meth c H locs cells slots mc1 ms1 (F0 m pc ls (ar ++ rest)) rest (mm_QO φ ρ D A cI cL (.inl v) σ1 ar.reverse.toArray) A := by
    intro T hT Y
    obtain ⟨vm₁, X₁, hstep₁⟩ := Y.invokestatic hc.1 hc.2.2.2.2.2.1 (hts _ hl) hnamed hmethM hstatic hkP hinitP m3 (g := F0 m pc ls (ar ++ rest)) rfl (argsL := ar.reverse) (rest := rest) hlen (by rw [List.reverse_reverse]) (by rw [hc.2.1]; exact hd)
    obtain ⟨v0, B, X', ⟨g', mk', t, Lc, b1, b2, b3, b4, b5, b6, b7⟩, hsteps⟩ := hK m meth c ⟨T.setVm vm₁, locs, cells, slots⟩ (F0 m pc ls rest) (.invokestatic idx) mk ar.reverse.toArray X₁ rfl (hL.1.1.trans hc.2.2.1.symm) (by rw [hc.2.1]; exact hd) (by show 2 * 0 + _ ≤ 8; rw [va2.cats]; simpa using hw) (X₁.named hnamed) ⟨by show cells + mc1 ≤ _; omega, by show slots + ms1 ≤ _; omega, hpre.2 (T.setVm vm₁) hT X₁.warmed⟩
    simp only [Pt.U, Pt.locs, Pt.cells, Pt.slots] at b1 b2 b4 b6 b7 X' hsteps
    refine ⟨v0, (T.setVm vm₁).calling g' mk' ar.reverse.toArray, t, B.1, Lc, hT, ?_, b5, b1, b2, b3, fun target h => hstep₁ _ fun acts => by rw [doInvoke_state]; exact hsteps.trans h⟩
    rw [← b4, ← b6, ← b7]; exact X'
  refine mm_goes hrun hS ?_
  intro δ ws' H1 locs1 vr q1 q2 q3 q4 q5
  refine mm_Wmono (fun t h => h.ext (δ := δ) (by omega) (by omega)) (hr hc q1 q2 q3 q4 hL.mono ?_ (by omega) (by omega))
  cases v <;> cases vr <;> first | exact q5.elim | exact va2.mono | exact ⟨q5, va2.mono⟩
end MMN
