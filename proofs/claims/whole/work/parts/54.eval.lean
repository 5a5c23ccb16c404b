/-! ===== a property of the pile, evaluated ===== -/
def evf (tv sv : Nat → Nat → Nat) (kd fa fb : Nat → Nat) : Nat → Nat → Nat
  | 0, _ => 0
  | m + 1, i => if kd i = 3 then tv (fa i) (fb i) else if kd i = 4 then sv (fa i) (fb i) else
      if kd i = 2 then (if evf tv sv kd fa fb m (fa i) < 2 then 1 - evf tv sv kd fa fb m (fa i) else evf tv sv kd fa fb m (fa i)) else
      if kd i = 1 then (if evf tv sv kd fa fb m (fa i) = 0 then evf tv sv kd fa fb m (fb i) else evf tv sv kd fa fb m (fa i)) else
      (if evf tv sv kd fa fb m (fa i) = 1 then evf tv sv kd fa fb m (fb i) else evf tv sv kd fa fb m (fa i))
def evE (tv sv : Nat → Nat → Nat) (kd fa fb : Nat → Nat) (i : Nat) : Nat := evf tv sv kd fa fb (i + 1) i
section EVAL
variable {l : Launch} {X : Nat × (Nat → Int32)} {d : Nat} {I I' : Nat → Nat → Int32} {J J' : Nat → Nat → Int64} {mc ms : Nat} {cnt fld fty : Nat → Nat} {t n h m : Nat} {kd fa fb ly : Nat → Nat} {tv sv : Nat → Nat → Nat} {τ : TR}
theorem evf_st (hw : PW n h kd fa fb ly) : ∀ (m i : Nat), i < n → i < m → evf tv sv kd fa fb m i = evE tv sv kd fa fb i := by
  have key : ∀ (m m' i : Nat), i < n → i < m → i < m' → evf tv sv kd fa fb m i = evf tv sv kd fa fb m' i := by
    intro m
    induction m with
    | zero => intro m' i _ h1 _; omega
    | succ m ih =>
      intro m' i hi h1 h2
      obtain ⟨k', rfl⟩ : ∃ k', m' = k' + 1 := ⟨m' - 1, by omega⟩
      obtain ⟨w1, w2, w3, w4⟩ := hw.2.2.1 i hi
      rw [evf, evf]
      by_cases e3 : kd i = 3
      · rw [if_pos e3, if_pos e3]
      · rw [if_neg e3, if_neg e3]
        by_cases e4 : kd i = 4
        · rw [if_pos e4, if_pos e4]
        · rw [if_neg e4, if_neg e4]
          obtain ⟨u1, u2⟩ := w2 (by omega)
          rw [ih k' (fa i) (by omega) (by omega) (by omega), ih k' (fb i) (by omega) (by omega) (by omega)]
  intro m i hi h1
  exact key m (i + 1) i hi h1 (by omega)
theorem evE_eq (hw : PW n h kd fa fb ly) {i : Nat} (hi : i < n) : evE tv sv kd fa fb i = if kd i = 3 then tv (fa i) (fb i) else if kd i = 4 then sv (fa i) (fb i) else
      if kd i = 2 then (if evE tv sv kd fa fb (fa i) < 2 then 1 - evE tv sv kd fa fb (fa i) else evE tv sv kd fa fb (fa i)) else
      if kd i = 1 then (if evE tv sv kd fa fb (fa i) = 0 then evE tv sv kd fa fb (fb i) else evE tv sv kd fa fb (fa i)) else
      (if evE tv sv kd fa fb (fa i) = 1 then evE tv sv kd fa fb (fb i) else evE tv sv kd fa fb (fa i)) := by
  obtain ⟨w1, w2, w3, w4⟩ := hw.2.2.1 i hi
  rw [evE, evf]
  by_cases e3 : kd i = 3
  · rw [if_pos e3, if_pos e3]
  · rw [if_neg e3, if_neg e3]
    by_cases e4 : kd i = 4
    · rw [if_pos e4, if_pos e4]
    · rw [if_neg e4, if_neg e4]
      obtain ⟨u1, u2⟩ := w2 (by omega)
      rw [evf_st hw i (fa i) (by omega) u1, evf_st hw i (fb i) (by omega) u2]
theorem evE_lt (hw : PW n h kd fa fb ly) (ht : ∀ i, i < n → kd i = 3 → tv (fa i) (fb i) < 1000) (hs : ∀ i, i < n → kd i = 4 → sv (fa i) (fb i) < 1000) : ∀ (m i : Nat), i < m → i < n → evE tv sv kd fa fb i < 1000
  | 0, i, h1, _ => by omega
  | m + 1, i, h1, hi => by
    obtain ⟨w1, w2, w3, w4⟩ := hw.2.2.1 i hi
    rw [evE_eq hw hi]
    by_cases e3 : kd i = 3
    · rw [if_pos e3]; exact ht i hi e3
    · rw [if_neg e3]
      by_cases e4 : kd i = 4
      · rw [if_pos e4]; exact hs i hi e4
      · rw [if_neg e4]
        obtain ⟨u1, u2⟩ := w2 (by omega)
        have g1 := evE_lt hw ht hs m (fa i) (by omega) (by omega)
        have g2 := evE_lt hw ht hs m (fb i) (by omega) (by omega)
        split
        · split <;> omega
        · split
          · split <;> omega
          · split <;> omega
theorem cdA_0 {w : Nat} (h : w < 1000) : cdA w = -2 ↔ w = 0 := by
  match w, h with
  | 0, _ => exact ⟨fun _ => rfl, fun _ => rfl⟩
  | 1, _ => exact ⟨fun q => absurd q (by decide), fun q => absurd q (by decide)⟩
  | w + 2, h => exact ⟨fun q => absurd q (nI_ne2 (by omega)), fun q => absurd q (by omega)⟩
theorem cdA_neg {w : Nat} (h : w < 1000) : (if cdA w = -1 then (-2 : Int32) else if cdA w = -2 then -1 else cdA w) = cdA (if w < 2 then 1 - w else w) := by
  match w, h with
  | 0, _ => decide
  | 1, _ => decide
  | w + 2, h =>
    rw [if_neg (fun q => absurd ((cdA_1 h).mp q) (by omega)), if_neg (fun q => absurd ((cdA_0 h).mp q) (by omega)), if_neg (by omega)]
/-- what a value answers to test and same -/
def tvF (fld fty : Nat → Nat) (τ : TR) (t : Nat) : Nat → Nat → Nat := fun p c => tvl fld fty τ t p c
def svF (fld fty : Nat → Nat) (n : Nat) (τ : TR) (t : Nat) : Nat → Nat → Nat := fun p q => svl fld fty n τ t p q
theorem tvl_lt {b : Bool} {T A N : Nat → Int32} {p c : Nat} (hW : TW cnt fld fty) (hp : isPb p = true) (ht : t < 6) (h : HT b cnt fld fty T A N m τ t 0) : tvl fld fty τ t p c < 1000 := by
  have := isPb_lt hp
  obtain ⟨a1, a2⟩ := wk_code hW hp ht h
  unfold tvl
  split
  · split
    · omega
    · split <;> omega
  · rcases hq : (wk fld fty p (stp 4 p) τ t).1 with _ | _ | r
    · omega
    · omega
    · have := a1 r hq; omega
theorem svl_lt {b : Bool} {T A N : Nat → Int32} {p q : Nat} (hW : TW cnt fld fty) (hp : isPb p = true) (hq : isPb q = true) (hm : m ≤ 4) (ht : t < 6) (h : HT b cnt fld fty T A N m τ t 0) : svl fld fty m τ t p q < 1000 := by
  have := isPb_lt hp
  have := isPb_lt hq
  obtain ⟨a1, a2⟩ := wk_code hW hp ht h
  obtain ⟨b1, b2⟩ := wk_code hW hq ht h
  unfold svl
  split
  · rcases hq : (wk fld fty p (stp 4 p) τ t).1 with _ | _ | r
    · omega
    · omega
    · have := a1 r hq; omega
  · split
    · rcases hq : (wk fld fty q (stp 4 q) τ t).1 with _ | _ | r
      · omega
      · omega
      · have := b1 r hq; omega
    · split
      · split <;> omega
      · obtain ⟨m1, k6, kH⟩ := a2 (by omega)
        obtain ⟨m2, k6', kH'⟩ := b2 (by omega)
        exact cm_lt hW _ _ _ _ _ _ _ _ (by omega) (by omega) (pz_lt hp m1 hm) (pz_lt hq m2 hm) k6 k6' kH kH'
theorem ev_lt {b : Bool} {T A N : Nat → Int32} (hW : TW cnt fld fty) (hw : PW n h kd fa fb ly) (hm : m ≤ 4) (ht : t < 6) (hH : HT b cnt fld fty T A N m τ t 0) {i : Nat} (hi : i < n) : evE (tvF fld fty τ t) (svF fld fty m τ t) kd fa fb i < 1000 :=
  evE_lt hw (fun i hi e => tvl_lt hW ((hw.2.2.1 i hi).2.2.1 e).1 ht hH) (fun i hi e => svl_lt hW ((hw.2.2.1 i hi).2.2.2 e).1 ((hw.2.2.1 i hi).2.2.2 e).2 hm ht hH) (i + 1) i (by omega) hi
/-- evaluate -/
theorem c82 (hW : TW cnt fld fty) (hP : PC n h kd fa fb ly I) (hw : PW n h kd fa fb ly) (hm : m ≤ 4) (ht : t < 6) (hH : HT true cnt fld fty (I 14) (I 15) (I 16) m τ t 0) :
    ∀ (u i : Nat), i < u → i < n → mm_Call l X 82 (d + u + 6) [.ref 19, .int (nI i), .ref 13] (mm_Λ, I, J) mc ms (.inl (some (.int (cdA (evE (tvF fld fty τ t) (svF fld fty m τ t) kd fa fb i))))) (mm_Λ, I, J) := by
  intro u
  induction u generalizing mc ms with
  | zero => intro i h1 _; omega
  | succ u ih =>
    intro i h1 hi
    have hn := hw.1
    obtain ⟨w1, w2, w3, w4⟩ := hw.2.2.1 i hi
    obtain ⟨p1, p2, p3⟩ := hP.2.2.1 i hi
    have hi20 := ix_in (n := i) (N := 20) (by omega) (by omega)
    have q0 := @b82_0 l X (d + u + 6) I J (nI i) mc ms (.inl (some (.int (cdA (evE (tvF fld fty τ t) (svF fld fty m τ t) kd fa fb i))))) (mm_Λ, I, J) hi20 hi20 hi20
    rw [ix_cl (by omega), p1, p2, p3] at q0
    refine q0 ?_
    rw [evE_eq hw hi]
    by_cases e3 : kd i = 3
    · obtain ⟨v1, v2⟩ := w3 e3
      rw [if_pos e3, e3]
      have r := @c83 l X (d + u + 4) I J 0 0 cnt fld fty (fa i) t (fb i) m τ hW v1 v2 ht hH
      exact mm_tableIn (off := 27) (tgt := 48) d82_21 (by decide) (by decide) (by decide) (by decide) (b82_48 r b82_55)
    · rw [if_neg e3]
      by_cases e4 : kd i = 4
      · obtain ⟨v1, v2⟩ := w4 e4
        rw [if_pos e4, e4]
        have r := @c86 l X (d + u) I J 0 0 cnt fld fty (fa i) (fb i) t m τ hW v1 v2 hm ht hH
        exact mm_tableIn (off := 35) (tgt := 56) d82_21 (by decide) (by decide) (by decide) (by decide) (b82_56 r b82_63)
      · rw [if_neg e4]
        obtain ⟨v1, v2⟩ := w2 (by omega)
        have g1 := ev_lt (i := fa i) hW hw hm ht hH (by omega)
        have r1 := ih (mc := 0) (ms := 0) (fa i) (by omega) (by omega)
        have r2 := ih (mc := 0) (ms := 0) (fb i) (by omega) (by omega)
        by_cases e2 : kd i = 2
        · rw [if_pos e2, e2]
          have r3 := @c88 l X (d + u + 6) I J 0 0 (cdA (evE (tvF fld fty τ t) (svF fld fty m τ t) kd fa fb (fa i)))
          rw [cdA_neg g1] at r3
          exact mm_tableIn (off := 43) (tgt := 64) d82_21 (by decide) (by decide) (by decide) (by decide) (b82_64 r1 (b82_70 r3 b82_73))
        · rw [if_neg e2]
          have tail : ∀ (s0 : Int32) (v : Nat), (cdA (evE (tvF fld fty τ t) (svF fld fty m τ t) kd fa fb (fa i)) = s0 ↔ evE (tvF fld fty τ t) (svF fld fty m τ t) kd fa fb (fa i) = v) → mm_Run l X 82 (d + u + 6 + 1) 98 [.ref 19, .int (nI i), .ref 13, .int (nI (fa i)), .int (nI (fb i)), .int (cdA (evE (tvF fld fty τ t) (svF fld fty m τ t) kd fa fb (fa i))), .null] [.int s0] (mm_Λ, I, J) mc ms (.inl (some (.int (cdA (if evE (tvF fld fty τ t) (svF fld fty m τ t) kd fa fb (fa i) = v then evE (tvF fld fty τ t) (svF fld fty m τ t) kd fa fb (fb i) else evE (tvF fld fty τ t) (svF fld fty m τ t) kd fa fb (fa i)))))) (mm_Λ, I, J) := by
            intro s0 v hv
            refine b82_98 (fun z => ?_) (fun z => ?_)
            · rw [if_neg (fun w => z (hv.mpr w))]
              exact b82_117 b82_119
            · rw [if_pos (hv.mp (Decidable.not_not.mp z))]
              exact b82_107 r2 (b82_114 b82_119)
          have hout : (nI (kd i)).toInt < 2 ∨ (4 : Int) < (nI (kd i)).toInt := by
            have : kd i = 0 ∨ kd i = 1 := by omega
            rcases this with w | w <;> rw [w] <;> decide
          refine mm_tableOut (tgt := 74) d82_21 hout (by decide) (b82_74 r1 (b82_80 hi20 (fun z => ?_) (fun z => ?_)))
          · rw [ix_cl (by omega), p1] at z
            have e1 : ¬ kd i = 1 := fun w => z (by rw [w]; rfl)
            rw [if_neg e1]
            exact b82_97 (tail (-1) 1 (cdA_1 g1))
          · rw [ix_cl (by omega), p1] at z
            have e1 : kd i = 1 := (nI_eq (b := 1) (by omega) (by omega)).mp (Decidable.not_not.mp z)
            rw [if_pos e1]
            exact b82_92 (tail (-2) 0 (cdA_0 g1))
/-- evaluateTopmost -/
theorem c81 (hW : TW cnt fld fty) (hP : PC n h kd fa fb ly I) (hw : PW n h kd fa fb ly) (hh : 0 < h) (hm : m ≤ 4) (ht : t < 6) (hH : HT true cnt fld fty (I 14) (I 15) (I 16) m τ t 0) :
    mm_Call l X 81 (d + 27) [.ref 19, .ref 13] (mm_Λ, I, J) mc ms (.inl (some (.int (cdA (evE (tvF fld fty τ t) (svF fld fty m τ t) kd fa fb (ly (h - 1))))))) (mm_Λ, I, J) := by
  have h1 := hw.1
  have h2 := hw.2.1
  have h3 := hw.2.2.2 (h - 1) (by omega)
  have r := @c82 l X d I J 0 0 cnt fld fty t n h m kd fa fb ly τ hW hP hw hm ht hH 20 (ly (h - 1)) (by omega) h3
  refine b81_0 ?_ ?_ b81_16
  · rw [hP.2.1, nI_m1 (by omega)]; exact ix_in (by omega) (by omega)
  · rw [hP.2.1, nI_m1 (by omega), ix_cl (by omega), hP.2.2.2 _ (by omega)]
    exact r
end EVAL
