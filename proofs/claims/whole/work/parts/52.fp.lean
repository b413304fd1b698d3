/-! doubles that are not negative, as numbers of units of 2^-1074 -/
section FPs
abbrev b64 : Jvm.FP.Core.Fmt := Jvm.FP.Core.b64
def fpC (n : Nat) : Nat := if n / 2 ^ 52 = 0 then n % 2 ^ 52 else 2 ^ 52 + n % 2 ^ 52
def fpK (n : Nat) : Nat := n / 2 ^ 52 - 1
def fpV (n : Nat) : Nat := fpC n * 2 ^ fpK n
/-- finite and not negative -/
def fpOk (n : Nat) : Prop := n < 2047 * 2 ^ 52
theorem fpC_lt (n : Nat) : fpC n < 2 ^ 53 := by
  have := Nat.mod_lt n (Nat.two_pow_pos 52)
  unfold fpC
  split <;> omega
theorem fp_dec {n : Nat} (h : fpOk n) : Jvm.FP.Core.decode b64 n = .fin false (fpC n) (-1074 + (fpK n : Int)) := by
  have hE : Jvm.FP.Core.fieldE b64 n = n / 2 ^ 52 := by
    show n / 2 ^ 52 % 2048 = _
    unfold fpOk at h
    omega
  have hS : Jvm.FP.Core.fieldS b64 n = false := by
    show (n / 2 ^ 52 / 2048 % 2 == 1) = false
    unfold fpOk at h
    rw [show n / 2 ^ 52 / 2048 = 0 by omega]
    rfl
  have hT : Jvm.FP.Core.fieldT b64 n = n % 2 ^ 52 := rfl
  unfold Jvm.FP.Core.decode
  rw [hE, hS, hT]
  rw [if_neg (show ¬ n / 2 ^ 52 = b64.exps - 1 by rw [show b64.exps - 1 = 2047 from rfl]; unfold fpOk at h; omega)]
  unfold fpC fpK
  by_cases c : n / 2 ^ 52 = 0
  · rw [if_pos c, if_pos c, c]
    rfl
  · rw [if_neg c, if_neg c]
    congr 1
    show (-1074 : Int) + (((n / 2 ^ 52 : Nat) : Int) - 1) = -1074 + ((n / 2 ^ 52 - 1 : Nat) : Int)
    omega
/-- what stands for c * 2^s -/
def fpE (c s : Nat) : Nat := if c < 2 ^ 52 then c else (s + 1) * 2 ^ 52 + (c - 2 ^ 52)
theorem fp_enc {c s : Nat} : Jvm.FP.Core.encode b64 (.fin false c (-1074 + (s : Int))) = fpE c s := by
  show (if c < 2 ^ 52 then Jvm.FP.Core.assemble b64 false 0 c else Jvm.FP.Core.assemble b64 false ((-1074 + (s : Int) - (-1074)).toNat + 1) (c - 2 ^ 52)) = _
  unfold fpE
  split
  · show (0 * 2048 + 0) * 2 ^ 52 + c = c
    omega
  · show (0 * 2048 + ((-1074 + (s : Int) - (-1074)).toNat + 1)) * 2 ^ 52 + (c - 2 ^ 52) = _
    rw [show (-1074 + (s : Int) - (-1074)).toNat = s by omega]
    omega
theorem fpV_E {c s : Nat} (hc : c < 2 ^ 53) (h : s = 0 ∨ 2 ^ 52 ≤ c) : fpV (fpE c s) = c * 2 ^ s := by
  unfold fpE fpV fpC fpK
  by_cases q : c < 2 ^ 52
  · rw [if_pos q]
    obtain rfl : s = 0 := by omega
    rw [if_pos (show c / 2 ^ 52 = 0 by omega), show c % 2 ^ 52 = c by omega, show c / 2 ^ 52 - 1 = 0 by omega]
  · rw [if_neg q]
    have e1 : ((s + 1) * 2 ^ 52 + (c - 2 ^ 52)) / 2 ^ 52 = s + 1 := by omega
    have e2 : ((s + 1) * 2 ^ 52 + (c - 2 ^ 52)) % 2 ^ 52 = c - 2 ^ 52 := by omega
    rw [e1, e2, if_neg (by omega), show 2 ^ 52 + (c - 2 ^ 52) = c by omega, Nat.add_sub_cancel]
theorem fpE_ok {c s : Nat} (hc : c < 2 ^ 53) (hs : s < 2046) : fpOk (fpE c s) := by
  unfold fpE fpOk
  split <;> omega
theorem near_lo {a b m : Nat} (hb : 0 < b) (h : m * b ≤ a) : m ≤ Jvm.FP.Core.nearest a b := by
  have h1 : m ≤ a / b := (Nat.le_div_iff_mul_le hb).mpr h
  unfold Jvm.FP.Core.nearest
  split
  · exact h1
  · split <;> omega
theorem near_hi {a b m : Nat} (hb : 0 < b) (h : a ≤ m * b) : Jvm.FP.Core.nearest a b ≤ m := by
  have h1 : a / b ≤ m := Nat.div_le_of_le_mul (by rw [Nat.mul_comm]; exact h)
  have h2 := Nat.div_add_mod a b
  unfold Jvm.FP.Core.nearest
  by_cases c : a / b = m
  · have h3 : b * (a / b) = m * b := by rw [c, Nat.mul_comm]
    have h4 : a % b = 0 := by omega
    rw [h4, if_pos (by omega)]
    exact h1
  · split
    · exact h1
    · split <;> omega
theorem near_mul {a b m : Nat} (hm : 0 < m) : Jvm.FP.Core.nearest (a * m) (b * m) = Jvm.FP.Core.nearest a b := by
  unfold Jvm.FP.Core.nearest
  rw [Nat.mul_div_mul_right _ _ hm, Nat.mul_mod_mul_right]
  have e1 : (2 * (a % b * m) < b * m) = (2 * (a % b) < b) := by
    rw [← Nat.mul_assoc]
    exact propext ⟨fun h => Nat.lt_of_mul_lt_mul_right h, fun h => Nat.mul_lt_mul_of_pos_right h hm⟩
  have e2 : (b * m < 2 * (a % b * m)) = (b < 2 * (a % b)) := by
    rw [← Nat.mul_assoc]
    exact propext ⟨fun h => Nat.lt_of_mul_lt_mul_right h, fun h => Nat.mul_lt_mul_of_pos_right h hm⟩
  simp only [e1, e2]
/-- a number of units, rounded: its significand, its exponent -/
def rnS (N : Nat) : Nat := N.log2 - 52
def rnC (N : Nat) : Nat := Jvm.FP.Core.nearest N (2 ^ rnS N)
theorem log2_b {N : Nat} (h : N ≠ 0) : 2 ^ N.log2 ≤ N ∧ N < 2 ^ (N.log2 + 1) := ⟨Nat.log2_self_le h, Nat.lt_log2_self⟩
theorem rnC_le {N : Nat} : rnC N ≤ 2 ^ 53 := by
  by_cases h : N = 0
  · subst h
    exact (by decide : rnC 0 ≤ 2 ^ 53)
  · have := log2_b h
    refine near_hi (Nat.two_pow_pos _) ?_
    rw [← Nat.pow_add]
    refine Nat.le_trans (Nat.le_of_lt this.2) (Nat.pow_le_pow_right (by omega) ?_)
    unfold rnS
    omega
theorem rnC_ge {N : Nat} (h : rnS N ≠ 0) : 2 ^ 52 ≤ rnC N := by
  have h0 : N ≠ 0 := fun q => by subst q; exact h (by decide)
  have := log2_b h0
  refine near_lo (Nat.two_pow_pos _) ?_
  rw [← Nat.pow_add, show 52 + rnS N = N.log2 by unfold rnS at h ⊢; omega]
  exact this.1
/-- its bits -/
def rnB (N : Nat) : Nat := if rnC N < 2 ^ 53 then fpE (rnC N) (rnS N) else fpE (2 ^ 52) (rnS N + 1)
theorem rnB_v (N : Nat) : fpV (rnB N) = rnC N * 2 ^ rnS N := by
  unfold rnB
  split
  · rename_i c
    refine fpV_E c ?_
    by_cases h : rnS N = 0
    · exact Or.inl h
    · exact Or.inr (rnC_ge h)
  · rename_i c
    have : rnC N = 2 ^ 53 := Nat.le_antisymm rnC_le (by omega)
    rw [fpV_E (by omega) (Or.inr (Nat.le_refl _)), this, Nat.pow_succ 2 (rnS N), ← Nat.mul_assoc, Nat.mul_right_comm]
theorem rnB_ok {N : Nat} (h : N.log2 < 2000) : fpOk (rnB N) := by
  have hs : rnS N < 2000 := by unfold rnS; omega
  unfold rnB
  split
  · rename_i c
    exact fpE_ok c (by omega)
  · exact fpE_ok (by omega) (by omega)
theorem rn_lo {N c k : Nat} (hc : c < 2 ^ 53) (h : c * 2 ^ k ≤ N) : c * 2 ^ k ≤ rnC N * 2 ^ rnS N := by
  by_cases hk : rnS N ≤ k
  · obtain ⟨j, rfl⟩ : ∃ j, k = rnS N + j := ⟨k - rnS N, by omega⟩
    rw [Nat.pow_add, Nat.mul_comm (2 ^ rnS N), ← Nat.mul_assoc] at h ⊢
    exact Nat.mul_le_mul_right _ (near_lo (Nat.two_pow_pos _) h)
  · have h1 : 2 ^ 52 ≤ rnC N := rnC_ge (by omega)
    have h2 : c * 2 ^ k ≤ 2 ^ 53 * 2 ^ k := Nat.mul_le_mul_right _ (Nat.le_of_lt hc)
    have h3 : 2 ^ 53 * 2 ^ k ≤ 2 ^ 52 * 2 ^ rnS N := by
      rw [← Nat.pow_add, ← Nat.pow_add]
      exact Nat.pow_le_pow_right (by omega) (by omega)
    exact Nat.le_trans h2 (Nat.le_trans h3 (Nat.mul_le_mul_right _ h1))
theorem rn_hi {N c k : Nat} (hk : rnS N ≤ k) (h : N ≤ c * 2 ^ k) : rnC N * 2 ^ rnS N ≤ c * 2 ^ k := by
  obtain ⟨j, rfl⟩ : ∃ j, k = rnS N + j := ⟨k - rnS N, by omega⟩
  rw [Nat.pow_add, Nat.mul_comm (2 ^ rnS N), ← Nat.mul_assoc] at h ⊢
  exact Nat.mul_le_mul_right _ (near_hi (Nat.two_pow_pos _) h)
/-- what is to be had exactly is had exactly -/
theorem rn_ex {c k : Nat} (hc : c < 2 ^ 53) : fpV (rnB (c * 2 ^ k)) = c * 2 ^ k := by
  rw [rnB_v]
  have h1 := rn_lo (N := c * 2 ^ k) hc (Nat.le_refl _)
  by_cases h0 : c = 0
  · subst h0
    rw [Nat.zero_mul]
    exact (by decide : rnC 0 * 2 ^ rnS 0 = 0)
  · refine Nat.le_antisymm (rn_hi ?_ (Nat.le_refl _)) h1
    have h2 : c * 2 ^ k < 2 ^ (53 + k) := by
      rw [Nat.pow_add]
      exact Nat.mul_lt_mul_of_pos_right hc (Nat.two_pow_pos _)
    have h3 : (c * 2 ^ k).log2 < 53 + k := (Nat.log2_lt (Nat.mul_ne_zero h0 (Nat.ne_of_gt (Nat.two_pow_pos _)))).mpr h2
    unfold rnS
    omega
/-- the machine's rounding of a number of units -/
theorem rr_enc {num j : Nat} (h : (num * 2 ^ j).log2 < 2000) : Jvm.FP.Core.encode b64 (Jvm.FP.Core.roundRatio b64 false num 1 (-1074 + (j : Int))) = rnB (num * 2 ^ j) := by
  unfold Jvm.FP.Core.roundRatio
  by_cases h0 : num = 0
  · subst h0
    rw [if_pos rfl, Nat.zero_mul]
    exact (by decide : Jvm.FP.Core.encode b64 (.fin false 0 b64.qmin) = rnB 0)
  · rw [if_neg h0]
    have hN0 : num * 2 ^ j ≠ 0 := Nat.mul_ne_zero h0 (Nat.ne_of_gt (Nat.two_pow_pos _))
    have hlog : (num * 2 ^ j).log2 = num.log2 + j := by
      refine (Nat.log2_eq_iff hN0).mpr ⟨?_, ?_⟩
      · rw [Nat.pow_add]
        exact Nat.mul_le_mul_right _ (log2_b h0).1
      · rw [show num.log2 + j + 1 = num.log2 + 1 + j by omega, Nat.pow_add]
        exact Nat.mul_lt_mul_of_pos_right (log2_b h0).2 (Nat.two_pow_pos _)
    have hlead : Jvm.FP.Core.leading num 1 = (num.log2 : Int) := by
      show (if 1 * 2 ^ ((num.log2 : Int) - ((1 : Nat).log2 : Int)).toNat ≤ num * 2 ^ (-((num.log2 : Int) - ((1 : Nat).log2 : Int))).toNat then (num.log2 : Int) - ((1 : Nat).log2 : Int) else (num.log2 : Int) - ((1 : Nat).log2 : Int) - 1) = _
      rw [show (1 : Nat).log2 = 0 by decide]
      rw [show ((num.log2 : Int) - ((0 : Nat) : Int)).toNat = num.log2 by omega, show (-((num.log2 : Int) - ((0 : Nat) : Int))).toNat = 0 by omega, if_pos (by rw [Nat.one_mul, Nat.pow_zero, Nat.mul_one]; exact (log2_b h0).1)]
      omega
    have hq : Jvm.FP.Core.quantum b64 num 1 (-1074 + (j : Int)) = -1074 + (rnS (num * 2 ^ j) : Int) := by
      show max (-1074 : Int) (Jvm.FP.Core.leading num 1 + (-1074 + (j : Int)) - ((53 : Nat) - 1)) = _
      rw [hlead]
      unfold rnS
      rw [hlog]
      omega
    rw [hq]
    unfold Jvm.FP.Core.roundAt Jvm.FP.Core.unitsNum Jvm.FP.Core.unitsDen
    generalize hs : rnS (num * 2 ^ j) = s
    have hs2 : s < 2000 := by rw [← hs]; unfold rnS; omega
    have hc : Jvm.FP.Core.nearest (num * 2 ^ (-1074 + (j : Int) - (-1074 + (s : Int))).toNat) (1 * 2 ^ (-1074 + (s : Int) - (-1074 + (j : Int))).toNat) = rnC (num * 2 ^ j) := by
      unfold rnC
      rw [hs, show (-1074 + (j : Int) - (-1074 + (s : Int))).toNat = j - s by omega, show (-1074 + (s : Int) - (-1074 + (j : Int))).toNat = s - j by omega, Nat.one_mul]
      rw [← near_mul (m := 2 ^ min j s) (Nat.two_pow_pos _), Nat.mul_assoc, ← Nat.pow_add, ← Nat.pow_add, show j - s + min j s = j by omega, show s - j + min j s = s by omega]
    rw [hc]
    unfold Jvm.FP.Core.settle rnB
    rw [hs]
    show Jvm.FP.Core.encode b64 (if rnC (num * 2 ^ j) < 2 ^ 53 then Jvm.FP.Core.bound b64 false (rnC (num * 2 ^ j)) (-1074 + (s : Int)) else Jvm.FP.Core.bound b64 false (2 ^ 52) (-1074 + (s : Int) + 1)) = _
    have hb : ∀ (c s : Nat), s < 2046 → Jvm.FP.Core.encode b64 (Jvm.FP.Core.bound b64 false c (-1074 + (s : Int))) = fpE c s := fun c s h => by
      unfold Jvm.FP.Core.bound
      rw [if_pos (show (-1074 : Int) + (s : Int) ≤ b64.qmax by show (-1074 : Int) + (s : Int) ≤ 971; omega)]
      exact fp_enc
    by_cases c : rnC (num * 2 ^ j) < 2 ^ 53
    · rw [if_pos c, if_pos c]
      exact hb _ _ (by omega)
    · rw [if_neg c, if_neg c, show (-1074 + (s : Int) + 1) = -1074 + ((s + 1 : Nat) : Int) by omega]
      exact hb _ _ (by omega)
theorem fpV_lt {n : Nat} (h : fpOk n) : fpV n < 2 ^ 2099 := by
  unfold fpOk at h
  have h1 := fpC_lt n
  have h2 : fpK n ≤ 2046 := by unfold fpK; omega
  unfold fpV
  refine Nat.lt_of_lt_of_le (Nat.mul_lt_mul_of_pos_right h1 (Nat.two_pow_pos _)) ?_
  rw [← Nat.pow_add]
  exact Nat.pow_le_pow_right (by omega) (by omega)
theorem fp_min {c d j k : Nat} : c * 2 ^ (-1074 + (j : Int) - min (-1074 + (j : Int)) (-1074 + (k : Int))).toNat * 2 ^ min j k = c * 2 ^ j := by
  rw [Nat.mul_assoc, ← Nat.pow_add]
  congr 2
  omega
abbrev dV (x : UInt64) : Nat := fpV x.toNat
abbrev dOk (x : UInt64) : Prop := fpOk x.toNat
theorem rnB_64 {N : Nat} (h : N.log2 < 2000) : (UInt64.ofNat (rnB N)).toNat = rnB N := by
  have := rnB_ok h
  unfold fpOk at this
  rw [UInt64.toNat_ofNat']
  omega
theorem d_add {x y : UInt64} (hx : dOk x) (hy : dOk y) (h : (dV x + dV y).log2 < 2000) : FP.dadd x y = UInt64.ofNat (rnB (dV x + dV y)) := by
  show UInt64.ofNat (Jvm.FP.Core.encode b64 (Jvm.FP.Core.round b64 (Jvm.FP.Core.exactSum (Jvm.FP.Core.decode b64 x.toNat) (Jvm.FP.Core.decode b64 y.toNat)))) = _
  rw [fp_dec hx, fp_dec hy]
  generalize hc : fpC x.toNat = c
  generalize hd : fpC y.toNat = e
  generalize hj : fpK x.toNat = j
  generalize hk : fpK y.toNat = k
  have hV : dV x + dV y = (c * 2 ^ (-1074 + (j : Int) - min (-1074 + (j : Int)) (-1074 + (k : Int))).toNat + e * 2 ^ (-1074 + (k : Int) - min (-1074 + (j : Int)) (-1074 + (k : Int))).toNat) * 2 ^ min j k := by
    rw [Nat.add_mul, fp_min (d := 0)]
    have := @fp_min e 0 k j
    rw [Int.min_comm, Nat.min_comm] at this
    rw [this]
    show fpC x.toNat * 2 ^ fpK x.toNat + fpC y.toNat * 2 ^ fpK y.toNat = _
    rw [hc, hd, hj, hk]
  have hu : Jvm.FP.Core.sumUnits false c (-1074 + (j : Int)) false e (-1074 + (k : Int)) (min (-1074 + (j : Int)) (-1074 + (k : Int))) = ((c * 2 ^ (-1074 + (j : Int) - min (-1074 + (j : Int)) (-1074 + (k : Int))).toNat + e * 2 ^ (-1074 + (k : Int) - min (-1074 + (j : Int)) (-1074 + (k : Int))).toNat : Nat) : Int) := rfl
  have hs : ∀ (n : Nat), Jvm.FP.Core.sumSign false false (n : Int) = false := fun n => by
    unfold Jvm.FP.Core.sumSign
    split
    · rfl
    · exact decide_eq_false (by omega)
  show UInt64.ofNat (Jvm.FP.Core.encode b64 (Jvm.FP.Core.round b64 (.fin (Jvm.FP.Core.sumSign false false (Jvm.FP.Core.sumUnits false c (-1074 + (j : Int)) false e (-1074 + (k : Int)) (min (-1074 + (j : Int)) (-1074 + (k : Int))))) (Jvm.FP.Core.sumUnits false c (-1074 + (j : Int)) false e (-1074 + (k : Int)) (min (-1074 + (j : Int)) (-1074 + (k : Int)))).natAbs (min (-1074 + (j : Int)) (-1074 + (k : Int)))))) = _
  rw [hu, hs, Int.natAbs_natCast]
  rw [hV] at h ⊢
  show UInt64.ofNat (Jvm.FP.Core.encode b64 (Jvm.FP.Core.roundRatio b64 false _ 1 (min (-1074 + (j : Int)) (-1074 + (k : Int))))) = _
  rw [show min (-1074 + (j : Int)) (-1074 + (k : Int)) = -1074 + ((min j k : Nat) : Int) by omega] at h ⊢
  rw [rr_enc h]
theorem d_cmp {x y : UInt64} (hx : dOk x) (hy : dOk y) : FP.dcmp x y = some (compare (dV x : Int) (dV y : Int)) := by
  show Jvm.FP.Core.order (Jvm.FP.Core.decode b64 x.toNat) (Jvm.FP.Core.decode b64 y.toNat) = _
  rw [fp_dec hx, fp_dec hy]
  generalize hc : fpC x.toNat = c
  generalize hd : fpC y.toNat = e
  generalize hj : fpK x.toNat = j
  generalize hk : fpK y.toNat = k
  have e1 := @fp_min c 0 j k
  have e2 := @fp_min e 0 k j
  rw [Int.min_comm, Nat.min_comm] at e2
  show some (compare ((c * 2 ^ (-1074 + (j : Int) - min (-1074 + (j : Int)) (-1074 + (k : Int))).toNat : Nat) : Int) ((e * 2 ^ (-1074 + (k : Int) - min (-1074 + (j : Int)) (-1074 + (k : Int))).toNat : Nat) : Int)) = some (compare ((fpC x.toNat * 2 ^ fpK x.toNat : Nat) : Int) ((fpC y.toNat * 2 ^ fpK y.toNat : Nat) : Int))
  rw [hc, hd, hj, hk, ← e1, ← e2]
  congr 1
  generalize c * 2 ^ (-1074 + (j : Int) - min (-1074 + (j : Int)) (-1074 + (k : Int))).toNat = A
  generalize e * 2 ^ (-1074 + (k : Int) - min (-1074 + (j : Int)) (-1074 + (k : Int))).toNat = B
  have hp := Nat.two_pow_pos (min j k)
  rcases Nat.lt_trichotomy A B with q | q | q
  · have := Nat.mul_lt_mul_of_pos_right q hp
    rw [Int.compare_eq_lt.mpr (by omega), Int.compare_eq_lt.mpr (by omega)]
  · subst q
    rw [Int.compare_eq_eq.mpr rfl, Int.compare_eq_eq.mpr rfl]
  · have := Nat.mul_lt_mul_of_pos_right q hp
    rw [Int.compare_eq_gt.mpr (by omega), Int.compare_eq_gt.mpr (by omega)]
end FPs
