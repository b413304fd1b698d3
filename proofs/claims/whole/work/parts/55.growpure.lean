/-! growth: the rounds in doubles -/
section GrP
theorem dc_v {x y : UInt64} {op : ClassFile.CmpOp} (hx : dOk x) (hy : dOk y) : Op.cmpValue (FP.dcmp x y) op = if dV x < dV y then -1 else if dV x = dV y then 0 else 1 := by
  rw [d_cmp hx hy]
  rcases Nat.lt_trichotomy (dV x) (dV y) with q | q | q
  · rw [Int.compare_eq_lt.mpr (by omega), if_pos q]
    rfl
  · rw [Int.compare_eq_eq.mpr (by omega), if_neg (by omega), if_pos q]
    rfl
  · rw [Int.compare_eq_gt.mpr (by omega), if_neg (by omega), if_neg (by omega)]
    rfl
theorem dc_le {x y : UInt64} {op : ClassFile.CmpOp} (hx : dOk x) (hy : dOk y) : (Op.cmpValue (FP.dcmp x y) op ≤ 0) = (dV x ≤ dV y) := by
  rw [dc_v hx hy]
  rcases Nat.lt_trichotomy (dV x) (dV y) with q | q | q
  · rw [if_pos q]
    exact propext ⟨fun _ => by omega, fun _ => by decide⟩
  · rw [if_neg (by omega), if_pos q]
    exact propext ⟨fun _ => by omega, fun _ => by decide⟩
  · rw [if_neg (by omega), if_neg (by omega)]
    exact propext ⟨fun h => absurd h (by decide), fun h => absurd h (by omega)⟩
theorem dc_lt {x y : UInt64} {op : ClassFile.CmpOp} (hx : dOk x) (hy : dOk y) : (Op.cmpValue (FP.dcmp x y) op < 0) = (dV x < dV y) := by
  rw [dc_v hx hy]
  rcases Nat.lt_trichotomy (dV x) (dV y) with q | q | q
  · rw [if_pos q]
    exact propext ⟨fun _ => by omega, fun _ => by decide⟩
  · rw [if_neg (by omega), if_pos q]
    exact propext ⟨fun h => absurd h (by decide), fun h => absurd h (by omega)⟩
  · rw [if_neg (by omega), if_neg (by omega)]
    exact propext ⟨fun h => absurd h (by decide), fun h => absurd h (by omega)⟩
theorem dc_ge {x y : UInt64} {op : ClassFile.CmpOp} (hx : dOk x) (hy : dOk y) : (0 ≤ Op.cmpValue (FP.dcmp x y) op) = (dV y ≤ dV x) := by
  rw [dc_v hx hy]
  rcases Nat.lt_trichotomy (dV x) (dV y) with q | q | q
  · rw [if_pos q]
    exact propext ⟨fun h => absurd h (by decide), fun h => absurd h (by omega)⟩
  · rw [if_neg (by omega), if_pos q]
    exact propext ⟨fun _ => by omega, fun _ => by decide⟩
  · rw [if_neg (by omega), if_neg (by omega)]
    exact propext ⟨fun _ => by omega, fun _ => by decide⟩
theorem dc_gt {x y : UInt64} {op : ClassFile.CmpOp} (hx : dOk x) (hy : dOk y) : (0 < Op.cmpValue (FP.dcmp x y) op) = (dV y < dV x) := by
  rw [dc_v hx hy]
  rcases Nat.lt_trichotomy (dV x) (dV y) with q | q | q
  · rw [if_pos q]
    exact propext ⟨fun h => absurd h (by decide), fun h => absurd h (by omega)⟩
  · rw [if_neg (by omega), if_pos q]
    exact propext ⟨fun h => absurd h (by decide), fun h => absurd h (by omega)⟩
  · rw [if_neg (by omega), if_neg (by omega)]
    exact propext ⟨fun _ => by omega, fun _ => by decide⟩
theorem dc_eq {x : UInt64} {op : ClassFile.CmpOp} (hx : dOk x) : (Op.cmpValue (FP.dcmp x x) op = 0) = True := by
  rw [dc_v hx hx, if_neg (Nat.lt_irrefl _), if_pos rfl]
  exact eq_true rfl
theorem d0_i : dOk FP.dconst0 ∧ dV FP.dconst0 = 0 := ⟨by show (0 : Nat) < 2047 * 2 ^ 52; decide, rfl⟩
theorem d1_i : dOk FP.dconst1 ∧ dV FP.dconst1 = 2 ^ 1074 := by
  obtain ⟨h1, _, _, h4⟩ := mkD_i (E := 1023) (t := 0) (by omega) (by omega) (by omega)
  refine ⟨h1, ?_⟩
  rw [d_one, h4, Nat.add_zero, ← Nat.pow_add]
def dS (g : aG) (f : Nat → UInt64) (s : Nat) : Nat → UInt64
  | 0 => FP.dconst0
  | n + 1 => if gS g n = s then FP.dadd (dS g f s n) (f (gE g n)) else dS g f s n
def dM (g : aG) (f : Nat → UInt64) : Nat → UInt64
  | 0 => FP.dconst0
  | s + 1 => if dV (dS g f s (gM g)) ≤ dV (dM g f s) then dM g f s else dS g f s (gM g)
def dN (g : aG) (f : Nat → UInt64) (s : Nat) : UInt64 := if dV (dM g f (gN g)) ≤ dV FP.dconst0 then dS g f s (gM g) else FP.ddiv (dS g f s (gM g)) (dM g f (gN g))
def dR (g : aG) : Nat → Nat → UInt64
  | 0 => fun _ => FP.dconst1
  | t + 1 => dN g (dR g t)
/-- 0, or not too small; not greater than B -/
def dB (k B : Nat) (x : UInt64) : Prop := dOk x ∧ dV x ≤ B ∧ (dV x = 0 ∨ 2 ^ (1074 - 6 * k) ≤ dV x)
def dG (g : aG) (k : Nat) (f : Nat → UInt64) : Prop := ∀ s, s < gN g → dB k (2 ^ 1074) (f s)
theorem dB_0 {k B : Nat} : dB k B FP.dconst0 := ⟨d0_i.1, by rw [d0_i.2]; exact Nat.zero_le _, Or.inl d0_i.2⟩
theorem dB_add {k n : Nat} {x y : UInt64} (hx : dB k (n * 2 ^ 1074) x) (hy : dB k (2 ^ 1074) y) (hn : n < 64) : dB k ((n + 1) * 2 ^ 1074) (FP.dadd x y) := by
  obtain ⟨x1, x2, x3⟩ := hx
  obtain ⟨y1, y2, y3⟩ := hy
  have hV : dV x + dV y ≤ (n + 1) * 2 ^ 1074 := by rw [Nat.add_mul, Nat.one_mul]; omega
  have hV2 : dV x + dV y < 2 ^ 1081 := by
    have h1 : (n + 1) * 2 ^ 1074 ≤ 2 ^ 6 * 2 ^ 1074 := Nat.mul_le_mul_right _ (by omega)
    have h2 : 2 ^ 6 * 2 ^ 1074 < 2 ^ 1081 := by
      rw [← Nat.pow_add]
      exact Nat.pow_lt_pow_right (by omega) (by omega)
    omega
  have hlog : (dV x + dV y).log2 < 1081 := by
    by_cases h0 : dV x + dV y = 0
    · rw [h0]; decide
    · exact (Nat.log2_lt h0).mpr hV2
  have e0 := rnB_64 (N := dV x + dV y) (by omega)
  have ev : dV (FP.dadd x y) = rnC (dV x + dV y) * 2 ^ rnS (dV x + dV y) := by
    rw [d_add x1 y1 (by omega)]
    show fpV _ = _
    rw [e0, rnB_v]
  refine ⟨?_, ?_, ?_⟩
  · rw [d_add x1 y1 (by omega)]
    show fpOk _
    rw [e0]
    exact rnB_ok (by omega)
  · rw [ev]
    exact rn_hi (by unfold rnS; omega) hV
  · rw [ev]
    rcases Nat.eq_zero_or_pos (dV x + dV y) with h0 | h0
    · rw [h0]
      exact Or.inl (by decide)
    · refine Or.inr ?_
      have h1 : 1 * 2 ^ (1074 - 6 * k) ≤ dV x + dV y := by
        rw [Nat.one_mul]
        rcases x3 with x3 | x3
        · rcases y3 with y3 | y3
          · omega
          · omega
        · omega
      have := rn_lo (c := 1) (by decide) h1
      rwa [Nat.one_mul] at this
theorem dB_w {k B B' : Nat} {x : UInt64} (h : dB k B x) (hB : B ≤ B') : dB k B' x := ⟨h.1, Nat.le_trans h.2.1 hB, h.2.2⟩
theorem dS_i {g : aG} (v : vG g) {k s : Nat} {f : Nat → UInt64} (h : dG g k f) : ∀ {n : Nat}, n ≤ gM g → dB k (n * 2 ^ 1074) (dS g f s n)
  | 0, _ => dB_0
  | n + 1, hn => by
    have ih := dS_i v (s := s) h (n := n) (by omega)
    have hm := v.2.1
    show dB k _ (if gS g n = s then FP.dadd (dS g f s n) (f (gE g n)) else dS g f s n)
    split
    · exact dB_add ih (h _ (v.e hn).2.2) (by omega)
    · exact dB_w ih (Nat.mul_le_mul_right _ (by omega))
theorem dS_64 {g : aG} (v : vG g) {k s : Nat} {f : Nat → UInt64} (h : dG g k f) : dB k (2 ^ 1080) (dS g f s (gM g)) := by
  refine dB_w (dS_i v h (Nat.le_refl _)) ?_
  have hm := v.2.1
  refine Nat.le_trans (Nat.mul_le_mul_right _ (show gM g ≤ 2 ^ 6 by omega)) ?_
  rw [← Nat.pow_add]
  exact Nat.le_refl _
theorem dM_i {g : aG} (v : vG g) {k : Nat} {f : Nat → UInt64} (h : dG g k f) : ∀ n, dB k (2 ^ 1080) (dM g f n) ∧ ∀ s, s < n → dV (dS g f s (gM g)) ≤ dV (dM g f n)
  | 0 => ⟨dB_0, fun s hs => absurd hs (Nat.not_lt_zero s)⟩
  | n + 1 => by
    obtain ⟨h1, h2⟩ := dM_i v h n
    show dB k _ (if dV (dS g f n (gM g)) ≤ dV (dM g f n) then dM g f n else dS g f n (gM g)) ∧ ∀ s, s < n + 1 → dV (dS g f s (gM g)) ≤ dV (if dV (dS g f n (gM g)) ≤ dV (dM g f n) then dM g f n else dS g f n (gM g))
    by_cases c : dV (dS g f n (gM g)) ≤ dV (dM g f n)
    · rw [if_pos c]
      refine ⟨h1, fun s hs => ?_⟩
      rcases Nat.lt_or_ge s n with q | q
      · exact h2 s q
      · obtain rfl : s = n := by omega
        exact c
    · rw [if_neg c]
      refine ⟨dS_64 v h, fun s hs => ?_⟩
      rcases Nat.lt_or_ge s n with q | q
      · have := h2 s q
        omega
      · obtain rfl : s = n := by omega
        exact Nat.le_refl _
theorem dN_i {g : aG} (v : vG g) {k : Nat} {f : Nat → UInt64} (h : dG g k f) (hk : k ≤ 100) : dG g (k + 1) (dN g f) := by
  intro s hs
  obtain ⟨m1, m2⟩ := dM_i v h (gN g)
  have hx := dS_64 (s := s) v h
  have hle := m2 s hs
  unfold dN
  by_cases c : dV (dM g f (gN g)) ≤ dV FP.dconst0
  · rw [if_pos c]
    rw [d0_i.2] at c
    have h0 : dV (dS g f s (gM g)) = 0 := by omega
    exact ⟨hx.1, by rw [h0]; exact Nat.zero_le _, Or.inl h0⟩
  · rw [if_neg c]
    rw [d0_i.2] at c
    by_cases h0 : dV (dS g f s (gM g)) = 0
    · rw [d_div0 hx.1 m1.1 h0 (by omega)]
      exact dB_0
    · have hlo : 2 ^ (1074 - 6 * k) ≤ dV (dS g f s (gM g)) := by
        rcases hx.2.2 with q | q
        · exact absurd q h0
        · exact q
      have hT : dV (dM g f (gN g)) ≤ dV (dS g f s (gM g)) * 2 ^ (6 * (k + 1)) := by
        refine Nat.le_trans m1.2.1 (Nat.le_trans ?_ (Nat.mul_le_mul_right _ hlo))
        rw [← Nat.pow_add]
        exact Nat.pow_le_pow_right (by omega) (by omega)
      obtain ⟨q1, q2, q3⟩ := d_div hx.1 m1.1 h0 hle (show 6 * (k + 1) ≤ 1000 by omega) hT
      exact ⟨q1, q2, Or.inr q3⟩
theorem dR_i {g : aG} (v : vG g) : ∀ t, t ≤ 101 → dG g t (dR g t)
  | 0, _ => fun s _ => ⟨d1_i.1, by show dV FP.dconst1 ≤ _; rw [d1_i.2]; exact Nat.le_refl _, Or.inr (by show _ ≤ dV FP.dconst1; rw [d1_i.2]; exact Nat.le_refl _)⟩
  | t + 1, h => dN_i v (dR_i v t (by omega)) (by omega)
/-- the answer is 0 or a number that is neither great nor small -/
theorem dM_E {g : aG} (v : vG g) {t : Nat} (ht : t ≤ 100) : dM g (dR g t) (gN g) = FP.dconst0 ∨ ∃ E u, 52 ≤ E ∧ E ≤ 1900 ∧ u < 2 ^ 52 ∧ dM g (dR g t) (gN g) = mkD E u := by
  obtain ⟨⟨h1, h2, h3⟩, _⟩ := dM_i v (dR_i v t (by omega)) (gN g)
  generalize dM g (dR g t) (gN g) = m at *
  rcases h3 with h3 | h3
  · refine Or.inl (UInt64.toNat_inj.mp ?_)
    have h1 : m.toNat < 2047 * 2 ^ 52 := h1
    have h4 : fpC m.toNat = 0 := by
      rcases Nat.mul_eq_zero.mp (show fpC m.toNat * 2 ^ fpK m.toNat = 0 from h3) with q | q
      · exact q
      · exact absurd q (Nat.ne_of_gt (Nat.two_pow_pos _))
    show m.toNat = 0
    unfold fpC at h4
    split at h4
    · omega
    · omega
  · have h5 : 2 ^ 474 ≤ dV m := Nat.le_trans (Nat.pow_le_pow_right (by omega) (by omega)) h3
    obtain ⟨E, u, e1, e2, e3, rfl⟩ := mkD_ex m h1 (Nat.le_trans (Nat.pow_le_pow_right (by omega) (by omega)) h5)
    have hv := (mkD_i e1 e2 e3).2.2.2
    rw [hv] at h2 h5
    refine Or.inr ⟨E, u, ?_, ?_, e3, rfl⟩
    · refine Nat.le_of_not_lt fun q => ?_
      have h6 : (2 ^ 52 + u) * 2 ^ (E - 1) < 2 ^ 53 * 2 ^ (E - 1) := Nat.mul_lt_mul_of_pos_right (by omega) (Nat.two_pow_pos _)
      have h7 : 2 ^ 53 * 2 ^ (E - 1) ≤ 2 ^ 474 := by
        rw [← Nat.pow_add]
        exact Nat.pow_le_pow_right (by omega) (by omega)
      omega
    · refine Nat.le_of_not_lt fun q => ?_
      have h6 : 2 ^ 52 * 2 ^ (E - 1) ≤ (2 ^ 52 + u) * 2 ^ (E - 1) := Nat.mul_le_mul_right _ (Nat.le_add_right _ _)
      have h7 : 2 ^ 1080 < 2 ^ 52 * 2 ^ (E - 1) := by
        rw [← Nat.pow_add]
        exact Nat.pow_lt_pow_right (by omega) (by omega)
      omega
def oGrow (a : aS) (x : Int32) : Int64 × aS := (if 1 ≤ x.toInt ∧ x.toInt ≤ 100 then lN (dM a.1 (dR a.1 (x.toNatClampNeg - 1)) (gN a.1)).toNat else -(lN 3), a)
end GrP
