/-! doubles: quotients, products, the whole part -/
section FPd
theorem qw_le {A B i j i' j' : Nat} (h : A * 2 ^ i ≤ B * 2 ^ j) (e : i' + j = i + j') : A * 2 ^ i' ≤ B * 2 ^ j' := by
  have h1 := Nat.mul_le_mul_right (2 ^ i') h
  rw [Nat.mul_assoc, Nat.mul_assoc, ← Nat.pow_add, ← Nat.pow_add, show j + i' = j' + i by omega, Nat.add_comm i i', Nat.pow_add, Nat.pow_add, ← Nat.mul_assoc, ← Nat.mul_assoc] at h1
  exact Nat.le_of_mul_le_mul_right h1 (Nat.two_pow_pos i)
theorem qw_lt {A B i j i' j' : Nat} (h : A * 2 ^ i < B * 2 ^ j) (e : i' + j = i + j') : A * 2 ^ i' < B * 2 ^ j' := by
  have h1 := Nat.mul_lt_mul_of_pos_right h (Nat.two_pow_pos i')
  rw [Nat.mul_assoc, Nat.mul_assoc, ← Nat.pow_add, ← Nat.pow_add, show j + i' = j' + i by omega, Nat.add_comm i i', Nat.pow_add, Nat.pow_add, ← Nat.mul_assoc, ← Nat.mul_assoc] at h1
  exact Nat.lt_of_mul_lt_mul_right h1
theorem lead_s {c d : Nat} (hc : c ≠ 0) (hd : d ≠ 0) : d * 2 ^ (Jvm.FP.Core.leading c d).toNat ≤ c * 2 ^ (-(Jvm.FP.Core.leading c d)).toNat ∧ c * 2 ^ (-(Jvm.FP.Core.leading c d + 1)).toNat < d * 2 ^ (Jvm.FP.Core.leading c d + 1).toNat := by
  have hc1 := log2_b hc
  have hd1 := log2_b hd
  unfold Jvm.FP.Core.leading
  dsimp only
  generalize c.log2 = a at *
  generalize d.log2 = b at *
  have hdc : d * 2 ^ a < c * 2 ^ (b + 1) := by
    have h1 : d * 2 ^ a < 2 ^ (b + 1) * 2 ^ a := Nat.mul_lt_mul_of_pos_right hd1.2 (Nat.two_pow_pos a)
    have h2 : 2 ^ (b + 1) * 2 ^ a ≤ 2 ^ (b + 1) * c := Nat.mul_le_mul_left _ hc1.1
    rw [Nat.mul_comm (2 ^ (b + 1)) c] at h2
    omega
  have hcd : c * 2 ^ b < d * 2 ^ (a + 1) := by
    have h1 : c * 2 ^ b < 2 ^ (a + 1) * 2 ^ b := Nat.mul_lt_mul_of_pos_right hc1.2 (Nat.two_pow_pos b)
    have h2 : 2 ^ (a + 1) * 2 ^ b ≤ 2 ^ (a + 1) * d := Nat.mul_le_mul_left _ hd1.1
    rw [Nat.mul_comm (2 ^ (a + 1)) d] at h2
    omega
  by_cases q : d * 2 ^ ((a : Int) - (b : Int)).toNat ≤ c * 2 ^ (-((a : Int) - (b : Int))).toNat
  · rw [if_pos q]
    exact ⟨q, qw_lt hcd (by omega)⟩
  · rw [if_neg q]
    refine ⟨Nat.le_of_lt (qw_lt hdc (by omega)), ?_⟩
    rw [show (a : Int) - (b : Int) - 1 + 1 = (a : Int) - (b : Int) by omega]
    exact Nat.lt_of_not_le q
/-- a quotient, rounded: its significand, its place -/
theorem rr_div {c d : Nat} {e z : Int} (hc : c ≠ 0) (hd : d ≠ 0) (hz : Jvm.FP.Core.leading c d + e = z) (h1 : -1022 ≤ z) (h2 : z ≤ 900) : ∃ C, 2 ^ 52 ≤ C ∧ C ≤ 2 ^ 53 ∧ C = Jvm.FP.Core.nearest (c * 2 ^ (52 - Jvm.FP.Core.leading c d).toNat) (d * 2 ^ (Jvm.FP.Core.leading c d - 52).toNat) ∧ Jvm.FP.Core.encode b64 (Jvm.FP.Core.roundRatio b64 false c d e) = if C < 2 ^ 53 then fpE C (z + 1022).toNat else fpE (2 ^ 52) ((z + 1022).toNat + 1) := by
  obtain ⟨l1, l2⟩ := lead_s hc hd
  refine ⟨_, ?_, ?_, rfl, ?_⟩
  · refine near_lo (Nat.mul_pos (Nat.pos_of_ne_zero hd) (Nat.two_pow_pos _)) ?_
    rw [Nat.mul_comm, Nat.mul_assoc, ← Nat.pow_add]
    exact qw_le l1 (by omega)
  · refine near_hi (Nat.mul_pos (Nat.pos_of_ne_zero hd) (Nat.two_pow_pos _)) ?_
    rw [Nat.mul_comm (2 ^ 53), Nat.mul_assoc, ← Nat.pow_add]
    exact Nat.le_of_lt (qw_lt l2 (by omega))
  · unfold Jvm.FP.Core.roundRatio
    rw [if_neg hc]
    have hq : Jvm.FP.Core.quantum b64 c d e = z - 52 := by
      show max (-1074 : Int) (Jvm.FP.Core.leading c d + e - ((53 : Nat) - 1)) = _
      rw [hz]
      omega
    rw [hq]
    unfold Jvm.FP.Core.roundAt Jvm.FP.Core.unitsNum Jvm.FP.Core.unitsDen
    rw [show e - (z - 52) = 52 - Jvm.FP.Core.leading c d by omega, show z - 52 - e = Jvm.FP.Core.leading c d - 52 by omega]
    generalize Jvm.FP.Core.nearest (c * 2 ^ (52 - Jvm.FP.Core.leading c d).toNat) (d * 2 ^ (Jvm.FP.Core.leading c d - 52).toNat) = C
    have hb : ∀ (c s : Nat), s < 2046 → Jvm.FP.Core.encode b64 (Jvm.FP.Core.bound b64 false c (-1074 + (s : Int))) = fpE c s := fun c s h => by
      unfold Jvm.FP.Core.bound
      rw [if_pos (show (-1074 : Int) + (s : Int) ≤ b64.qmax by show (-1074 : Int) + (s : Int) ≤ 971; omega)]
      exact fp_enc
    show Jvm.FP.Core.encode b64 (if C < 2 ^ 53 then Jvm.FP.Core.bound b64 false C (z - 52) else Jvm.FP.Core.bound b64 false (2 ^ 52) (z - 52 + 1)) = _
    by_cases q : C < 2 ^ 53
    · rw [if_pos q, if_pos q, show z - 52 = -1074 + ((z + 1022).toNat : Int) by omega]
      exact hb _ _ (by omega)
    · rw [if_neg q, if_neg q, show z - 52 + 1 = -1074 + (((z + 1022).toNat + 1 : Nat) : Int) by omega]
      exact hb _ _ (by omega)
/-- at most 1 where the first is at most the second; not too small -/
theorem d_div {x y : UInt64} {T : Nat} (hx : dOk x) (hy : dOk y) (hx0 : dV x ≠ 0) (hle : dV x ≤ dV y) (hT : T ≤ 1000) (hlow : dV y ≤ dV x * 2 ^ T) : dOk (FP.ddiv x y) ∧ dV (FP.ddiv x y) ≤ 2 ^ 1074 ∧ 2 ^ (1074 - T) ≤ dV (FP.ddiv x y) := by
  have hc0 : fpC x.toNat ≠ 0 := fun q => hx0 (by show fpC x.toNat * _ = 0; rw [q, Nat.zero_mul])
  have hd0 : fpC y.toNat ≠ 0 := fun q => by
    have : dV y = 0 := by show fpC y.toNat * _ = 0; rw [q, Nat.zero_mul]
    omega
  have hdef : FP.ddiv x y = UInt64.ofNat (Jvm.FP.Core.encode b64 (Jvm.FP.Core.roundRatio b64 false (fpC x.toNat) (fpC y.toNat) (-1074 + (fpK x.toNat : Int) - (-1074 + (fpK y.toNat : Int))))) := by
    show UInt64.ofNat (Jvm.FP.Core.encode b64 (Jvm.FP.Core.quotient b64 (Jvm.FP.Core.decode b64 x.toNat) (Jvm.FP.Core.decode b64 y.toNat))) = _
    rw [fp_dec hx, fp_dec hy]
    show UInt64.ofNat (Jvm.FP.Core.encode b64 (if fpC y.toNat = 0 then _ else _)) = _
    rw [if_neg hd0]
    rfl
  obtain ⟨l1, l2⟩ := lead_s hc0 hd0
  have hX : dV x = fpC x.toNat * 2 ^ fpK x.toNat := rfl
  have hY : dV y = fpC y.toNat * 2 ^ fpK y.toNat := rfl
  rw [hdef]
  generalize hL : Jvm.FP.Core.leading (fpC x.toNat) (fpC y.toNat) = L at *
  generalize hc : fpC x.toNat = c at *
  generalize hd : fpC y.toNat = d at *
  generalize hj : fpK x.toNat = j at *
  generalize hk : fpK y.toNat = k at *
  rw [hX, hY] at hle hlow
  -- the place of the quotient
  have hz0 : L + ((j : Int) - (k : Int)) ≤ 0 := by
    refine Int.not_lt.mp fun q => ?_
    have h1 : d * 2 ^ (k + 1 + L.toNat) ≤ c * 2 ^ (k + 1 + (-L).toNat) := qw_le l1 (by omega)
    have h2 : c * 2 ^ (k + 1 + (-L).toNat) ≤ c * 2 ^ (j + L.toNat) := Nat.mul_le_mul_left _ (Nat.pow_le_pow_right (by omega) (by omega))
    have h3 : d * 2 ^ (k + 1) ≤ c * 2 ^ j := qw_le (Nat.le_trans h1 h2) (by omega)
    have h4 : d * 2 ^ (k + 1) = d * 2 ^ k * 2 := by rw [Nat.pow_succ, Nat.mul_assoc]
    have h5 : 0 < d * 2 ^ k := Nat.mul_pos (Nat.pos_of_ne_zero hd0) (Nat.two_pow_pos _)
    omega
  have hzT : -(T : Int) ≤ L + ((j : Int) - (k : Int)) := by
    refine Int.not_lt.mp fun q => ?_
    rw [Nat.mul_assoc, ← Nat.pow_add] at hlow
    have h1 : c * 2 ^ (k + (-(L + 1)).toNat) < d * 2 ^ (k + (L + 1).toNat) := qw_lt l2 (by omega)
    have h2 : d * 2 ^ (k + (L + 1).toNat) ≤ c * 2 ^ (j + T + (L + 1).toNat) := qw_le hlow (by omega)
    have h3 : c * 2 ^ (j + T + (L + 1).toNat) ≤ c * 2 ^ (k + (-(L + 1)).toNat) := Nat.mul_le_mul_left _ (Nat.pow_le_pow_right (by omega) (by omega))
    omega
  obtain ⟨C, c1, c2, c3, c4⟩ := rr_div (e := (j : Int) - (k : Int)) (z := L + ((j : Int) - (k : Int))) hc0 hd0 (by rw [hL]) (by omega) (by omega)
  rw [show (-1074 + (j : Int) - (-1074 + (k : Int))) = (j : Int) - (k : Int) by omega, c4]
  generalize hzz : L + ((j : Int) - (k : Int)) = z at *
  have hs : (z + 1022).toNat ≤ 1022 ∧ 1022 - T ≤ (z + 1022).toNat := by omega
  generalize hss : (z + 1022).toNat = s at *
  have hv : ∃ n, (if C < 2 ^ 53 then fpE C s else fpE (2 ^ 52) (s + 1)) = n ∧ fpOk n ∧ fpV n = C * 2 ^ s := by
    refine ⟨_, rfl, ?_, ?_⟩
    · split
      · exact fpE_ok (by omega) (by omega)
      · exact fpE_ok (by omega) (by omega)
    · split
      · exact fpV_E (by omega) (Or.inr c1)
      · rw [fpV_E (by omega) (Or.inr (Nat.le_refl _)), show C = 2 ^ 53 by omega, Nat.pow_succ 2 s, ← Nat.mul_assoc, Nat.mul_right_comm]
  obtain ⟨n, e1, e2, e3⟩ := hv
  rw [e1]
  have e4 : (UInt64.ofNat n).toNat = n := by
    unfold fpOk at e2
    rw [UInt64.toNat_ofNat']
    omega
  show fpOk (UInt64.ofNat n).toNat ∧ fpV (UInt64.ofNat n).toNat ≤ 2 ^ 1074 ∧ 2 ^ (1074 - T) ≤ fpV (UInt64.ofNat n).toNat
  rw [e4, e3]
  refine ⟨e2, ?_, ?_⟩
  · by_cases q : z = 0
    · have hs0 : s = 1022 := by omega
      -- equal numbers: exactly 1
      have hl0 : d * 2 ^ k ≤ c * 2 ^ j := qw_le l1 (by omega)
      have heq : c * 2 ^ j = d * 2 ^ k := Nat.le_antisymm hle hl0
      have hC : C ≤ 2 ^ 52 := by
        rw [c3, hL]
        refine near_hi (Nat.mul_pos (Nat.pos_of_ne_zero hd0) (Nat.two_pow_pos _)) ?_
        rw [Nat.mul_comm (2 ^ 52), Nat.mul_assoc, ← Nat.pow_add]
        exact qw_le (Nat.le_of_eq heq) (by omega)
      rw [hs0]
      exact Nat.le_trans (Nat.mul_le_mul_right _ hC) (by rw [← Nat.pow_add]; exact Nat.le_refl _)
    · refine Nat.le_trans (Nat.mul_le_mul_right _ c2) ?_
      rw [← Nat.pow_add]
      exact Nat.pow_le_pow_right (by omega) (by omega)
  · refine Nat.le_trans ?_ (Nat.mul_le_mul_right _ c1)
    rw [← Nat.pow_add]
    exact Nat.pow_le_pow_right (by omega) (by omega)
theorem d_div0 {x y : UInt64} (hx : dOk x) (hy : dOk y) (hx0 : dV x = 0) (hy0 : dV y ≠ 0) : FP.ddiv x y = 0 := by
  have hc0 : fpC x.toNat = 0 := by
    rcases Nat.mul_eq_zero.mp (show fpC x.toNat * 2 ^ fpK x.toNat = 0 from hx0) with q | q
    · exact q
    · exact absurd q (Nat.ne_of_gt (Nat.two_pow_pos _))
  have hd0 : fpC y.toNat ≠ 0 := fun q => hy0 (by show fpC y.toNat * _ = 0; rw [q, Nat.zero_mul])
  show UInt64.ofNat (Jvm.FP.Core.encode b64 (Jvm.FP.Core.quotient b64 (Jvm.FP.Core.decode b64 x.toNat) (Jvm.FP.Core.decode b64 y.toNat))) = _
  rw [fp_dec hx, fp_dec hy, hc0]
  show UInt64.ofNat (Jvm.FP.Core.encode b64 (if fpC y.toNat = 0 then _ else Jvm.FP.Core.roundRatio b64 false 0 (fpC y.toNat) _)) = _
  rw [if_neg hd0]
  unfold Jvm.FP.Core.roundRatio
  rw [if_pos rfl]
  decide
end FPd
