/-! doubles: halves, doubles, the bits -/
section FPb
theorem vf_ok {r : UInt64} (h : dOk r) : vf_n64 r := by
  have h : r.toNat < 2047 * 2 ^ 52 := h
  unfold vf_n64
  rw [UInt64.le_iff_toNat_le, UInt64.toNat_and]
  show r.toNat &&& (2 ^ 63 - 1) ≤ 2047 * 2 ^ 52
  rw [Nat.and_two_pow_sub_one_eq_mod]
  omega
theorem rnB_n {c s : Nat} (h1 : 2 ^ 52 ≤ c) (h2 : c < 2 ^ 53) : (c * 2 ^ s).log2 = 52 + s ∧ rnB (c * 2 ^ s) = fpE c s := by
  have h0 : c * 2 ^ s ≠ 0 := Nat.mul_ne_zero (by omega) (Nat.ne_of_gt (Nat.two_pow_pos _))
  have hl : (c * 2 ^ s).log2 = 52 + s := by
    refine (Nat.log2_eq_iff h0).mpr ⟨?_, ?_⟩
    · rw [Nat.pow_add]
      exact Nat.mul_le_mul_right _ h1
    · rw [show 52 + s + 1 = 53 + s by omega, Nat.pow_add]
      exact Nat.mul_lt_mul_of_pos_right h2 (Nat.two_pow_pos _)
  have hs : rnS (c * 2 ^ s) = s := by unfold rnS; omega
  have hc : rnC (c * 2 ^ s) = c := by
    unfold rnC
    rw [hs]
    exact Nat.le_antisymm (near_hi (Nat.two_pow_pos _) (Nat.le_refl _)) (near_lo (Nat.two_pow_pos _) (Nat.le_refl _))
  refine ⟨hl, ?_⟩
  unfold rnB
  rw [hc, hs, if_pos h2]
def mkD (E t : Nat) : UInt64 := UInt64.ofNat (E * 2 ^ 52 + t)
theorem mkD_n {E t : Nat} (hE : E < 2047) (ht : t < 2 ^ 52) : (mkD E t).toNat = E * 2 ^ 52 + t := by
  unfold mkD
  rw [UInt64.toNat_ofNat']
  omega
theorem mkD_i {E t : Nat} (h1 : 1 ≤ E) (hE : E < 2047) (ht : t < 2 ^ 52) : dOk (mkD E t) ∧ fpC (mkD E t).toNat = 2 ^ 52 + t ∧ fpK (mkD E t).toNat = E - 1 ∧ dV (mkD E t) = (2 ^ 52 + t) * 2 ^ (E - 1) := by
  have e0 := mkD_n hE ht
  have e1 : (E * 2 ^ 52 + t) / 2 ^ 52 = E := by omega
  have e2 : (E * 2 ^ 52 + t) % 2 ^ 52 = t := by omega
  have e3 : fpC (mkD E t).toNat = 2 ^ 52 + t := by
    rw [e0]
    unfold fpC
    rw [e1, e2, if_neg (by omega)]
  have e4 : fpK (mkD E t).toNat = E - 1 := by
    rw [e0]
    unfold fpK
    rw [e1]
  refine ⟨?_, e3, e4, ?_⟩
  · show fpOk _
    rw [e0]
    unfold fpOk
    omega
  · show fpC _ * 2 ^ fpK _ = _
    rw [e3, e4]
theorem mkD_ex (x : UInt64) (h : dOk x) (h0 : 2 ^ 52 ≤ dV x) : ∃ E t, 1 ≤ E ∧ E < 2047 ∧ t < 2 ^ 52 ∧ x = mkD E t := by
  have h : x.toNat < 2047 * 2 ^ 52 := h
  refine ⟨x.toNat / 2 ^ 52, x.toNat % 2 ^ 52, ?_, by omega, Nat.mod_lt _ (Nat.two_pow_pos _), ?_⟩
  · rcases Nat.eq_zero_or_pos (x.toNat / 2 ^ 52) with c | c
    · exfalso
      have : dV x = x.toNat % 2 ^ 52 := by
        show fpC x.toNat * 2 ^ fpK x.toNat = _
        unfold fpC fpK
        rw [if_pos c, c, Nat.zero_sub, Nat.pow_zero, Nat.mul_one]
      omega
    · exact c
  · refine UInt64.toNat_inj.mp ?_
    rw [mkD_n (by omega) (Nat.mod_lt _ (Nat.two_pow_pos _))]
    omega
theorem mkD_lt {E t k : Nat} (ht : t < 2 ^ 52) : ((2 ^ 52 + t) * 2 ^ (E - 1) < 2 ^ 52 * 2 ^ k) ↔ E - 1 < k := by
  constructor
  · intro h
    refine Nat.lt_of_not_le fun q => ?_
    have h1 : 2 ^ 52 * 2 ^ k ≤ (2 ^ 52 + t) * 2 ^ (E - 1) := Nat.mul_le_mul (Nat.le_add_right _ _) (Nat.pow_le_pow_right (by omega) q)
    omega
  · intro h
    have h1 : (2 ^ 52 + t) * 2 ^ (E - 1) < 2 ^ 53 * 2 ^ (E - 1) := Nat.mul_lt_mul_of_pos_right (by omega) (Nat.two_pow_pos _)
    have h2 : 2 ^ 53 * 2 ^ (E - 1) ≤ 2 ^ 52 * 2 ^ k := by
      rw [← Nat.pow_add, ← Nat.pow_add]
      exact Nat.pow_le_pow_right (by omega) (by omega)
    omega
theorem d_two : (UInt64.ofNat 4611686018427387904) = mkD 1024 0 := rfl
theorem d_one : FP.dconst1 = mkD 1023 0 := rfl
theorem d_big : (UInt64.ofNat 4841369599423283200) = mkD 1075 0 := rfl
theorem lead0 {c : Nat} (h1 : 2 ^ 52 ≤ c) (h2 : c < 2 ^ 53) : Jvm.FP.Core.leading c (2 ^ 52) = 0 := by
  have hl : c.log2 = 52 := (Nat.log2_eq_iff (by omega)).mpr ⟨h1, h2⟩
  unfold Jvm.FP.Core.leading
  dsimp only
  rw [hl, show (2 ^ 52 : Nat).log2 = 52 from Nat.log2_two_pow]
  rw [if_pos (by show 2 ^ 52 * 1 ≤ c * 1; omega)]
  rfl
theorem d_half {E t : Nat} (h1 : 2 ≤ E) (hE : E ≤ 1900) (ht : t < 2 ^ 52) : FP.ddiv (mkD E t) (mkD 1024 0) = mkD (E - 1) t := by
  obtain ⟨a1, a2, a3, _⟩ := mkD_i (t := t) (show 1 ≤ E by omega) (by omega) ht
  obtain ⟨b1, b2, b3, _⟩ := mkD_i (E := 1024) (t := 0) (by omega) (by omega) (by omega)
  show UInt64.ofNat (Jvm.FP.Core.encode b64 (Jvm.FP.Core.quotient b64 (Jvm.FP.Core.decode b64 (mkD E t).toNat) (Jvm.FP.Core.decode b64 (mkD 1024 0).toNat))) = _
  rw [fp_dec a1, fp_dec b1, a2, a3, b2, b3, Nat.add_zero]
  show UInt64.ofNat (Jvm.FP.Core.encode b64 (Jvm.FP.Core.roundRatio b64 false (2 ^ 52 + t) (2 ^ 52) (-1074 + ((E - 1 : Nat) : Int) - (-1074 + ((1024 - 1 : Nat) : Int))))) = _
  have hl := lead0 (c := 2 ^ 52 + t) (by omega) (by omega)
  obtain ⟨C, c1, c2, c3, c4⟩ := rr_div (c := 2 ^ 52 + t) (d := 2 ^ 52) (e := (-1074 + ((E - 1 : Nat) : Int) - (-1074 + ((1024 - 1 : Nat) : Int)))) (z := (E : Int) - 1024) (by omega) (by decide) (by rw [hl]; omega) (by omega) (by omega)
  rw [c4]
  have hC : C = 2 ^ 52 + t := by
    rw [c3, hl]
    show Jvm.FP.Core.nearest ((2 ^ 52 + t) * 2 ^ 52) (2 ^ 52 * 2 ^ 0) = _
    rw [Nat.pow_zero, Nat.mul_one]
    exact Nat.le_antisymm (near_hi (by decide) (Nat.le_refl _)) (near_lo (by decide) (Nat.le_refl _))
  rw [hC, if_pos (by omega), show ((E : Int) - 1024 + 1022).toNat = E - 2 by omega]
  unfold fpE mkD
  rw [if_neg (by omega), show E - 2 + 1 = E - 1 by omega, Nat.add_sub_cancel_left]
theorem d_dbl {E t : Nat} (h1 : 52 ≤ E) (hE : E ≤ 1900) (ht : t < 2 ^ 52) : FP.dmul (mkD E t) (mkD 1024 0) = mkD (E + 1) t := by
  obtain ⟨a1, a2, a3, _⟩ := mkD_i (t := t) (show 1 ≤ E by omega) (by omega) ht
  obtain ⟨b1, b2, b3, _⟩ := mkD_i (E := 1024) (t := 0) (by omega) (by omega) (by omega)
  show UInt64.ofNat (Jvm.FP.Core.encode b64 (Jvm.FP.Core.round b64 (Jvm.FP.Core.exactProduct (Jvm.FP.Core.decode b64 (mkD E t).toNat) (Jvm.FP.Core.decode b64 (mkD 1024 0).toNat)))) = _
  rw [fp_dec a1, fp_dec b1, a2, a3, b2, b3, Nat.add_zero]
  show UInt64.ofNat (Jvm.FP.Core.encode b64 (Jvm.FP.Core.roundRatio b64 false ((2 ^ 52 + t) * 2 ^ 52) 1 (-1074 + ((E - 1 : Nat) : Int) + (-1074 + ((1024 - 1 : Nat) : Int))))) = _
  rw [show (-1074 + ((E - 1 : Nat) : Int) + (-1074 + ((1024 - 1 : Nat) : Int))) = -1074 + ((E - 52 : Nat) : Int) by omega]
  have hN : (2 ^ 52 + t) * 2 ^ 52 * 2 ^ (E - 52) = (2 ^ 52 + t) * 2 ^ E := by
    rw [Nat.mul_assoc, ← Nat.pow_add, show 52 + (E - 52) = E by omega]
  obtain ⟨r1, r2⟩ := rnB_n (c := 2 ^ 52 + t) (s := E) (by omega) (by omega)
  rw [rr_enc (by rw [hN, r1]; omega), hN, r2]
  unfold fpE mkD
  rw [if_neg (by omega), Nat.add_sub_cancel_left]
theorem log_lt {t k : Nat} (ht : t < 2 ^ 52) (hk : k ≤ 1100) : (t * 2 ^ k).log2 < 2000 := by
  by_cases h0 : t * 2 ^ k = 0
  · rw [h0]
    decide
  · have h1 : t * 2 ^ k < 2 ^ (52 + k) := by
      rw [Nat.pow_add]
      exact Nat.mul_lt_mul_of_pos_right ht (Nat.two_pow_pos _)
    have := (Nat.log2_lt h0).mpr h1
    omega
theorem d_sub1 {t : Nat} (ht : t < 2 ^ 52) : FP.dsub (mkD 1023 t) (mkD 1023 0) = UInt64.ofNat (rnB (t * 2 ^ 1022)) := by
  obtain ⟨a1, a2, a3, _⟩ := mkD_i (E := 1023) (t := t) (by omega) (by omega) ht
  obtain ⟨b1, b2, b3, _⟩ := mkD_i (E := 1023) (t := 0) (by omega) (by omega) (by omega)
  show UInt64.ofNat (Jvm.FP.Core.encode b64 (Jvm.FP.Core.round b64 (Jvm.FP.Core.exactSum (Jvm.FP.Core.decode b64 (mkD 1023 t).toNat) (Jvm.FP.Core.negate (Jvm.FP.Core.decode b64 (mkD 1023 0).toNat))))) = _
  rw [fp_dec a1, fp_dec b1, a2, a3, b2, b3, Nat.add_zero]
  have hu : Jvm.FP.Core.sumUnits false (2 ^ 52 + t) (-1074 + ((1023 - 1 : Nat) : Int)) true (2 ^ 52) (-1074 + ((1023 - 1 : Nat) : Int)) (min (-1074 + ((1023 - 1 : Nat) : Int)) (-1074 + ((1023 - 1 : Nat) : Int))) = (t : Int) := by
    show (((2 ^ 52 + t) * 2 ^ 0 : Nat) : Int) + -((2 ^ 52 * 2 ^ 0 : Nat) : Int) = t
    omega
  have hs : Jvm.FP.Core.sumSign false true (t : Int) = false := by
    unfold Jvm.FP.Core.sumSign
    split
    · rfl
    · exact decide_eq_false (by omega)
  show UInt64.ofNat (Jvm.FP.Core.encode b64 (Jvm.FP.Core.round b64 (.fin (Jvm.FP.Core.sumSign false true (Jvm.FP.Core.sumUnits false (2 ^ 52 + t) (-1074 + ((1023 - 1 : Nat) : Int)) true (2 ^ 52) (-1074 + ((1023 - 1 : Nat) : Int)) (min (-1074 + ((1023 - 1 : Nat) : Int)) (-1074 + ((1023 - 1 : Nat) : Int))))) (Jvm.FP.Core.sumUnits false (2 ^ 52 + t) (-1074 + ((1023 - 1 : Nat) : Int)) true (2 ^ 52) (-1074 + ((1023 - 1 : Nat) : Int)) (min (-1074 + ((1023 - 1 : Nat) : Int)) (-1074 + ((1023 - 1 : Nat) : Int)))).natAbs (min (-1074 + ((1023 - 1 : Nat) : Int)) (-1074 + ((1023 - 1 : Nat) : Int)))))) = _
  rw [hu, hs, Int.natAbs_natCast]
  show UInt64.ofNat (Jvm.FP.Core.encode b64 (Jvm.FP.Core.roundRatio b64 false t 1 (-1074 + ((1022 : Nat) : Int)))) = _
  rw [rr_enc (log_lt ht (by omega))]
theorem d_shl {t : Nat} (ht : t < 2 ^ 52) : FP.dmul (UInt64.ofNat (rnB (t * 2 ^ 1022))) (mkD 1075 0) = UInt64.ofNat (rnB (t * 2 ^ 1074)) := by
  have hl := log_lt (k := 1022) ht (by omega)
  have e0 := rnB_64 hl
  have a1 : dOk (UInt64.ofNat (rnB (t * 2 ^ 1022))) := by
    show fpOk _
    rw [e0]
    exact rnB_ok hl
  have a2 : fpC (UInt64.ofNat (rnB (t * 2 ^ 1022))).toNat * 2 ^ fpK (UInt64.ofNat (rnB (t * 2 ^ 1022))).toNat = t * 2 ^ 1022 := by
    rw [e0]
    exact rn_ex (by omega)
  obtain ⟨b1, b2, b3, _⟩ := mkD_i (E := 1075) (t := 0) (by omega) (by omega) (by omega)
  show UInt64.ofNat (Jvm.FP.Core.encode b64 (Jvm.FP.Core.round b64 (Jvm.FP.Core.exactProduct (Jvm.FP.Core.decode b64 (UInt64.ofNat (rnB (t * 2 ^ 1022))).toNat) (Jvm.FP.Core.decode b64 (mkD 1075 0).toNat)))) = _
  rw [fp_dec a1, fp_dec b1, b2, b3, Nat.add_zero]
  generalize fpC (UInt64.ofNat (rnB (t * 2 ^ 1022))).toNat = c at *
  generalize fpK (UInt64.ofNat (rnB (t * 2 ^ 1022))).toNat = k at *
  show UInt64.ofNat (Jvm.FP.Core.encode b64 (Jvm.FP.Core.roundRatio b64 false (c * 2 ^ 52) 1 (-1074 + (k : Int) + (-1074 + ((1075 - 1 : Nat) : Int))))) = _
  have hN : c * 2 ^ 52 * 2 ^ k = t * 2 ^ 1074 := by
    rw [Nat.mul_right_comm, a2, Nat.mul_assoc, ← Nat.pow_add]
  rw [show (-1074 + (k : Int) + (-1074 + ((1075 - 1 : Nat) : Int))) = -1074 + (k : Int) by omega, rr_enc (by rw [hN]; exact log_lt (k := 1074) ht (by omega)), hN]
theorem d_d2l {t : Nat} (ht : t < 2 ^ 52) : FP.d2l (UInt64.ofNat (rnB (t * 2 ^ 1074))) = lN t := by
  have hl := log_lt (k := 1074) ht (by omega)
  have e0 := rnB_64 hl
  have a1 : dOk (UInt64.ofNat (rnB (t * 2 ^ 1074))) := by
    show fpOk _
    rw [e0]
    exact rnB_ok hl
  have a2 : fpC (UInt64.ofNat (rnB (t * 2 ^ 1074))).toNat * 2 ^ fpK (UInt64.ofNat (rnB (t * 2 ^ 1074))).toNat = t * 2 ^ 1074 := by
    rw [e0]
    exact rn_ex (by omega)
  show Jvm.FP.Core.toL (Jvm.FP.Core.decode b64 (UInt64.ofNat (rnB (t * 2 ^ 1074))).toNat) = _
  rw [fp_dec a1]
  generalize fpC (UInt64.ofNat (rnB (t * 2 ^ 1074))).toNat = c at *
  generalize fpK (UInt64.ofNat (rnB (t * 2 ^ 1074))).toNat = k at *
  have htr : c * 2 ^ (-1074 + (k : Int)).toNat / 2 ^ (-(-1074 + (k : Int))).toNat = t := by
    rcases Nat.lt_or_ge k 1074 with q | q
    · rw [show (-1074 + (k : Int)).toNat = 0 by omega, show (-(-1074 + (k : Int))).toNat = 1074 - k by omega, Nat.pow_zero, Nat.mul_one]
      have h1 : c * 2 ^ k = t * 2 ^ (1074 - k) * 2 ^ k := by
        rw [a2, Nat.mul_assoc, ← Nat.pow_add, show 1074 - k + k = 1074 by omega]
      have h2 : c = t * 2 ^ (1074 - k) := Nat.eq_of_mul_eq_mul_right (Nat.two_pow_pos k) h1
      rw [h2, Nat.mul_div_cancel _ (Nat.two_pow_pos _)]
    · rw [show (-1074 + (k : Int)).toNat = k - 1074 by omega, show (-(-1074 + (k : Int))).toNat = 0 by omega, Nat.pow_zero, Nat.div_one]
      have h1 : c * 2 ^ (k - 1074) * 2 ^ 1074 = t * 2 ^ 1074 := by
        rw [Nat.mul_assoc, ← Nat.pow_add, show k - 1074 + 1074 = k by omega, a2]
      exact Nat.eq_of_mul_eq_mul_right (Nat.two_pow_pos 1074) h1
  show Int64.ofInt (max (-2 ^ 63) (min (2 ^ 63 - 1) ((c * 2 ^ (-1074 + (k : Int)).toNat / 2 ^ (-(-1074 + (k : Int))).toNat : Nat) : Int))) = _
  rw [htr, show max (-2 ^ 63 : Int) (min (2 ^ 63 - 1) (t : Int)) = (t : Int) by omega]
  rfl
end FPb
