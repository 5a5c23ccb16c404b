/-! ===== the same numbers as natural numbers ===== -/
abbrev mny : Nat := 1000000000000000
theorem gL_toInt {n : Nat} (h : n < 2 ^ 62) : (lN n).toInt = (n : Int) := lg_ofNat_toInt (by omega)
theorem gL_le {a b : Nat} (ha : a < 2 ^ 62) (hb : b < 2 ^ 62) : lN a ≤ lN b ↔ a ≤ b := by
  rw [Int64.le_iff_toInt_le, gL_toInt ha, gL_toInt hb]; omega
theorem gL_lt {a b : Nat} (ha : a < 2 ^ 62) (hb : b < 2 ^ 62) : lN a < lN b ↔ a < b := by
  rw [Int64.lt_iff_toInt_lt, gL_toInt ha, gL_toInt hb]; omega
theorem gL_eq {a b : Nat} (ha : a < 2 ^ 62) (hb : b < 2 ^ 62) : lN a = lN b ↔ a = b := by
  rw [← Int64.toInt_inj, gL_toInt ha, gL_toInt hb]; omega
theorem bmod_id {x : Int} (h1 : 0 ≤ x) (h2 : x < 2 ^ 62) : x.bmod (2 ^ 64) = x := by
  rw [Int.bmod_eq_of_le] <;> omega
theorem gL_div {a b : Nat} (ha : a < 2 ^ 62) (hb : b < 2 ^ 62) : lN a / lN b = lN (a / b) := by
  have hq : a / b < 2 ^ 62 := Nat.lt_of_le_of_lt (Nat.div_le_self a b) ha
  rw [← Int64.toInt_inj, Int64.toInt_div, gL_toInt ha, gL_toInt hb, gL_toInt hq, show ((a : Int).tdiv (b : Int)) = ((a / b : Nat) : Int) from rfl]
  generalize a / b = q at hq ⊢
  exact bmod_id (by omega) (by omega)
theorem mny_lt : 2 * mny < 2 ^ 62 := by decide
theorem lit_M : (1000000000000000 : Int64) = lN mny := rfl
theorem lit_0 : (0 : Int64) = lN 0 := rfl
theorem lit_1 : (1 : Int64) = lN 1 := rfl
theorem cpI_N {a b : Nat} (ha : a ≤ mny) (hb : b ≤ mny) : cpI (lN a) (lN b) = lN (min (a * b) mny) := by
  unfold cpI
  have hm := mny_lt
  have ha' : a < 2 ^ 62 := by omega
  have hb' : b < 2 ^ 62 := by omega
  by_cases h0 : b = 0
  · subst h0
    rw [if_pos (show lN 0 = 0 from rfl), Nat.mul_zero, Nat.zero_min]; rfl
  · rw [if_neg (fun q => h0 ((gL_eq hb' (by omega)).mp (q.trans lit_0))), lit_M, gL_div (by omega) hb', lN_mul]
    have hd : mny / b < 2 ^ 62 := Nat.lt_of_le_of_lt (Nat.div_le_self _ _) (by omega)
    by_cases h1 : a ≤ mny / b
    · rw [if_pos ((gL_le ha' hd).mpr h1)]
      have : a * b ≤ mny := (Nat.le_div_iff_mul_le (by omega)).mp h1
      rw [Nat.min_eq_left this]
    · rw [if_neg (fun q => h1 ((gL_le ha' hd).mp q))]
      have : mny ≤ a * b := by
        apply Nat.le_of_lt
        apply Nat.lt_of_not_le
        intro q
        exact h1 ((Nat.le_div_iff_mul_le (by omega)).mpr q)
      rw [Nat.min_eq_right this]
theorem csI_N {a b : Nat} (ha : a ≤ mny) (hb : b ≤ mny) : csI (lN a) (lN b) = lN (min (a + b) mny) := by
  unfold csI
  have hm := mny_lt
  rw [lN_add, lit_M]
  by_cases h : mny < a + b
  · rw [if_pos ((gL_lt (by omega) (by omega)).mpr h), Nat.min_eq_right (by omega)]
  · rw [if_neg (fun q => h ((gL_lt (by omega) (by omega)).mp q)), Nat.min_eq_left (by omega)]
def foldFN (g : Nat → Nat) : Nat → Nat → Nat → Nat
  | 0, _, acc => acc
  | n + 1, j, acc => foldFN g n (j + 1) (min (acc * g j) mny)
def foldCN (g : Nat → Nat) : Nat → Nat → Nat → Nat
  | 0, _, acc => acc
  | n + 1, c, acc => foldCN g n (c + 1) (min (acc + g c) mny)
def DN (cnt fld fty : Nat → Nat) : Nat → Nat → Nat
  | 0, _ => 0
  | e + 1, t => foldCN (fun c => foldFN (fun j => DN cnt fld fty e (fty (3 * (4 * t + c) + j))) (fld (4 * t + c)) 0 1) (cnt t) 0 0
def DFN (cnt fld fty : Nat → Nat) (e f : Nat) : Nat := foldFN (fun j => DN cnt fld fty e (fty (3 * f + j))) (fld f) 0 1
theorem foldFN_le {g : Nat → Nat} : ∀ (n j acc : Nat), acc ≤ mny → foldFN g n j acc ≤ mny
  | 0, _, _, h => h
  | n + 1, j, acc, _ => foldFN_le n (j + 1) _ (Nat.min_le_right _ _)
theorem foldCN_le {g : Nat → Nat} : ∀ (n j acc : Nat), acc ≤ mny → foldCN g n j acc ≤ mny
  | 0, _, _, h => h
  | n + 1, j, acc, _ => foldCN_le n (j + 1) _ (Nat.min_le_right _ _)
theorem DN_le (cnt fld fty : Nat → Nat) : ∀ (e t : Nat), DN cnt fld fty e t ≤ mny
  | 0, _ => Nat.zero_le _
  | e + 1, t => by rw [DN]; exact foldCN_le _ _ _ (Nat.zero_le _)
theorem DFN_le (cnt fld fty : Nat → Nat) (e f : Nat) : DFN cnt fld fty e f ≤ mny := foldFN_le _ _ _ (by decide)
theorem foldF_N {g : Nat → Int64} {h : Nat → Nat} (hg : ∀ j, g j = lN (h j) ∧ h j ≤ mny) : ∀ (n j acc : Nat), acc ≤ mny → foldF g n j (lN acc) = lN (foldFN h n j acc)
  | 0, _, _, _ => rfl
  | n + 1, j, acc, ha => by
    rw [foldF, foldFN, (hg j).1, cpI_N ha (hg j).2]
    exact foldF_N hg n (j + 1) _ (Nat.min_le_right _ _)
theorem foldC_N {g : Nat → Int64} {h : Nat → Nat} (hg : ∀ j, g j = lN (h j) ∧ h j ≤ mny) : ∀ (n j acc : Nat), acc ≤ mny → foldC g n j (lN acc) = lN (foldCN h n j acc)
  | 0, _, _, _ => rfl
  | n + 1, j, acc, ha => by
    rw [foldC, foldCN, (hg j).1, csI_N ha (hg j).2]
    exact foldC_N hg n (j + 1) _ (Nat.min_le_right _ _)
theorem DT_N (cnt fld fty : Nat → Nat) : ∀ (e t : Nat), DT cnt fld fty e t = lN (DN cnt fld fty e t)
  | 0, _ => rfl
  | e + 1, t => by
    rw [DT, DN]
    exact foldC_N (fun c => ⟨foldF_N (fun j => ⟨DT_N cnt fld fty e _, DN_le _ _ _ _ _⟩) _ _ 1 (by decide), foldFN_le _ _ _ (by decide)⟩) _ _ 0 (by decide)
theorem DF_N (cnt fld fty : Nat → Nat) (e f : Nat) : DF cnt fld fty e f = lN (DFN cnt fld fty e f) :=
  foldF_N (fun j => ⟨DT_N cnt fld fty e _, DN_le _ _ _ _ _⟩) _ _ 1 (by decide)
theorem DN_succ (cnt fld fty : Nat → Nat) (e t : Nat) : DN cnt fld fty (e + 1) t = foldCN (fun c => DFN cnt fld fty e (4 * t + c)) (cnt t) 0 0 := rfl
