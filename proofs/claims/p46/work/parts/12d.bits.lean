/-! bits of numbers (the first family begins as the kit's text for pasting) and more that simp may use -/
def bt (x : Int32) (i : Nat) : Bool := x.toBitVec.getLsbD i
theorem b_ext {x y : Int32} (h : ∀ i, i < 32 → bt x i = bt y i) : x = y := Int32.toBitVec_inj.mp (BitVec.eq_of_getLsbD_eq (fun i hi => h i hi))
theorem b_or (x y : Int32) (i : Nat) : bt (x ||| y) i = (bt x i || bt y i) := by unfold bt; rw [Int32.toBitVec_or, BitVec.getLsbD_or]
theorem b_and (x y : Int32) (i : Nat) : bt (x &&& y) i = (bt x i && bt y i) := by unfold bt; rw [Int32.toBitVec_and, BitVec.getLsbD_and]
theorem b_big {x : Int32} {i : Nat} (h : 32 ≤ i) : bt x i = false := BitVec.getLsbD_of_ge _ _ h
theorem b_m1 : ∀ i, i < 32 → bt (-1) i = true := by decide +kernel
theorem s_l : ∀ n, n < 32 → ((nI n &&& 31).toBitVec.smod 32).toNat = n := by decide +kernel
theorem b_shl (n : Nat) (hn : n < 32) (x : Int32) {i : Nat} (hi : i < 32) : bt (x <<< (nI n &&& 31)) i = (decide (n ≤ i) && bt x (i - n)) := by
  unfold bt
  rw [Int32.toBitVec_shiftLeft]
  show (x.toBitVec <<< ((nI n &&& 31).toBitVec.smod 32).toNat).getLsbD i = _
  rw [s_l n hn, BitVec.getLsbD_shiftLeft]
  rcases Nat.lt_or_ge i n with h | h
  · simp [h, Nat.not_le.mpr h]
  · simp [hi, h, Nat.not_lt.mpr h]
theorem b_sshr (n : Nat) (hn : n < 32) (x : Int32) {i : Nat} (hi : i < 32) : bt (x >>> (nI n &&& 31)) i = if n + i < 32 then bt x (n + i) else bt x 31 := by
  unfold bt
  rw [Int32.toBitVec_shiftRight]
  show (x.toBitVec.sshiftRight ((nI n &&& 31).toBitVec.smod 32).toNat).getLsbD i = _
  rw [s_l n hn, BitVec.getLsbD_sshiftRight, BitVec.msb_eq_getLsbD_last]
  simp [hi]
theorem bt_nI {m i : Nat} (hi : i < 32) : bt (nI m) i = m.testBit i := by
  unfold bt
  show (BitVec.ofNat 32 m).getLsbD i = _
  rw [BitVec.getLsbD_ofNat]
  simp [hi]
theorem bt_1 (i : Nat) (hi : i < 32) : bt (nI 1) i = decide (i = 0) := by
  rw [bt_nI hi]
  exact Nat.testBit_two_pow (n := 0) |>.trans (by congr 1; exact propext eq_comm)
theorem z_and (a b : Nat) : nI a &&& nI b = nI (a &&& b) := by
  apply Int32.toBitVec_inj.1
  show BitVec.ofNat 32 a &&& BitVec.ofNat 32 b = BitVec.ofNat 32 (a &&& b)
  apply BitVec.eq_of_getLsbD_eq
  intro i hi
  simp [hi]
theorem z_or (a b : Nat) : nI a ||| nI b = nI (a ||| b) := by
  apply Int32.toBitVec_inj.1
  show BitVec.ofNat 32 a ||| BitVec.ofNat 32 b = BitVec.ofNat 32 (a ||| b)
  apply BitVec.eq_of_getLsbD_eq
  intro i hi
  simp [hi]
theorem z_sh {a k : Nat} (hk : k < 32) (h : a * 2 ^ k < 2 ^ 32) : nI a <<< (nI k &&& 31) = nI (a * 2 ^ k) := pk_shlN (nI k &&& 31) k (s_l k hk) h
theorem z_p2 {k n : Nat} (h : k < n) : 2 ^ k < 2 ^ n := Nat.pow_lt_pow_right (by omega) h
theorem z_sh1 {k : Nat} (hk : k < 31) : nI 1 <<< (nI k &&& 31) = nI (2 ^ k) := by
  have := z_p2 (show k < 32 by omega)
  have h := z_sh (a := 1) (k := k) (by omega) (by omega)
  rwa [Nat.one_mul] at h
theorem z_sr {n k : Nat} (hn : n < 2 ^ 31) (hk : k < 32) : nI n >>> (nI k &&& 31) = nI (n / 2 ^ k) := pk_shrN hn (nI k &&& 31) k (s_l k hk)
theorem z_bitI {x : Int32} {j : Nat} (hj : j < 32) : (x >>> (nI j &&& 31)) &&& nI 1 = nI (bt x j).toNat := by
  apply b_ext
  intro i hi
  rw [b_and, bt_1 i hi, b_sshr j hj x hi]
  by_cases c : i = 0
  · subst c
    rw [if_pos (by omega), Nat.add_zero]
    cases bt x j <;> decide
  · rw [decide_eq_false c, Bool.and_false]
    cases bt x j
    · exact ((by decide +kernel : ∀ i, i < 32 → bt (nI false.toNat) i = false) i hi).symm
    · show false = bt (nI 1) i
      rw [bt_1 i hi, decide_eq_false c]
theorem z_bit {m j : Nat} (hj : j < 32) : (nI m >>> (nI j &&& 31)) &&& nI 1 = nI (m.testBit j).toNat := by
  rw [z_bitI hj, bt_nI hj]
theorem z_b1 {b : Bool} : (nI b.toNat = nI 1) = (b = true) := by cases b <;> decide
theorem z_b0 {b : Bool} : (nI b.toNat = 0) = (b = false) := by cases b <;> decide
theorem z_b0' {b : Bool} : (nI b.toNat = nI 0) = (b = false) := by cases b <;> decide
theorem z_dec {a : Nat} (h : 1 ≤ a) : nI a + -(nI 1) = nI (a - 1) := by
  obtain ⟨b, rfl⟩ : ∃ b, a = b + 1 := ⟨a - 1, by omega⟩
  exact pk_m1 b
theorem zn_t {k : Nat} (h : k < 2 ^ 31) : (-(nI k)).toInt = -(k : Int) := sb_negT h
theorem zn_lt {k : Nat} (h0 : 0 < k) (h : k < 2 ^ 31) : (-(nI k) < 0) = True := by
  refine eq_true ?_
  rw [Int32.lt_iff_toInt_lt, zn_t h, Int32.toInt_zero]
  omega
theorem zn_ge {k : Nat} (h0 : 0 < k) (h : k < 2 ^ 31) : (0 ≤ -(nI k)) = False := by
  refine eq_false ?_
  rw [Int32.le_iff_toInt_le, zn_t h, Int32.toInt_zero]
  omega
theorem zn_ne {a k : Nat} (h0 : 0 < k) (h : k < 2 ^ 31) (ha : a < 2 ^ 31) : nI a ≠ -(nI k) := by
  intro q
  have := congrArg Int32.toInt q
  rw [zn_t h, nI_toInt ha] at this
  omega
theorem zn_e0 {k : Nat} (h0 : 0 < k) (h : k < 2 ^ 31) : (-(nI k) = 0) = False := eq_false fun q => zn_ne (a := 0) h0 h (by omega) (by rw [q]; rfl)
theorem zn_eq {a k : Nat} (h0 : 0 < k) (h : k < 2 ^ 31) (ha : a < 2 ^ 31) : (nI a = -(nI k)) = False := eq_false (zn_ne h0 h ha)
theorem zn_eq' {a k : Nat} (h0 : 0 < k) (h : k < 2 ^ 31) (ha : a < 2 ^ 31) : (-(nI k) = nI a) = False := eq_false fun q => zn_ne h0 h ha q.symm
theorem zn_lt2 {a k : Nat} (h0 : 0 < k) (h : k < 2 ^ 31) (ha : a < 2 ^ 31) : (-(nI k) < nI a) = True := by
  refine eq_true ?_
  rw [Int32.lt_iff_toInt_lt, zn_t h, nI_toInt ha]
  omega
theorem zn_le2 {a k : Nat} (h0 : 0 < k) (h : k < 2 ^ 31) (ha : a < 2 ^ 31) : (-(nI k) ≤ nI a) = True := by
  refine eq_true ?_
  rw [Int32.le_iff_toInt_le, zn_t h, nI_toInt ha]
  omega
theorem zn_lt3 {a k : Nat} (h0 : 0 < k) (h : k < 2 ^ 31) (ha : a < 2 ^ 31) : (nI a < -(nI k)) = False := by
  refine eq_false ?_
  rw [Int32.lt_iff_toInt_lt, zn_t h, nI_toInt ha]
  omega
theorem zn_le3 {a k : Nat} (h0 : 0 < k) (h : k < 2 ^ 31) (ha : a < 2 ^ 31) : (nI a ≤ -(nI k)) = False := by
  refine eq_false ?_
  rw [Int32.le_iff_toInt_le, zn_t h, nI_toInt ha]
  omega
theorem zn_nn {j k : Nat} (hj : j < 2 ^ 31) (h : k < 2 ^ 31) : (-(nI j) = -(nI k)) = (j = k) := by
  refine propext ⟨fun q => ?_, fun q => by rw [q]⟩
  have := congrArg Int32.toInt q
  rw [zn_t h, zn_t hj] at this
  omega
theorem aIn_iff (x : Int32) (n : Nat) : (aIn x n = true) = (0 ≤ x.toInt ∧ x.toInt < (n : Int)) := by simp [aIn]
theorem aIn_iff0 (x : Int32) (n : Nat) : (aIn x n = false) = ¬ (0 ≤ x.toInt ∧ x.toInt < (n : Int)) := by simp only [aIn, decide_eq_false_iff_not]
theorem zi_lt0 (x : Int32) : (x < 0) = (x.toInt < 0) := by rw [Int32.lt_iff_toInt_lt, Int32.toInt_zero]
theorem zi_ge0 (x : Int32) : (0 ≤ x) = (0 ≤ x.toInt) := by rw [Int32.le_iff_toInt_le, Int32.toInt_zero]
theorem zi_lt (x y : Int32) : (x < y) = (x.toInt < y.toInt) := propext Int32.lt_iff_toInt_lt
theorem zi_le (x y : Int32) : (x ≤ y) = (x.toInt ≤ y.toInt) := propext Int32.le_iff_toInt_le
theorem zi_eq (x y : Int32) : (x = y) = (x.toInt = y.toInt) := propext ⟨fun h => by rw [h], fun h => Int32.toInt_inj.mp h⟩
/-- frame: outside the cells a .. b all is as it was -/
def kp (w w' : mx_Wd) (a b : Nat) : Prop := ∀ k, (k < a ∨ b < k) → (∀ j, mx_F w' k j = mx_F w k j) ∧ mx_A w' k = mx_A w k
theorem kp.refl {w : mx_Wd} {a b : Nat} : kp w w a b := fun _ _ => ⟨fun _ => rfl, rfl⟩
theorem kp.trans {w w1 w2 : mx_Wd} {a b : Nat} (h : kp w w1 a b) (h' : kp w1 w2 a b) : kp w w2 a b := fun k hk => ⟨fun j => ((h' k hk).1 j).trans ((h k hk).1 j), (h' k hk).2.trans (h k hk).2⟩
theorem kp.wide {w w1 : mx_Wd} {a b a' b' : Nat} (h : kp w w1 a b) (h1 : a' ≤ a) (h2 : b ≤ b') : kp w w1 a' b' := fun k hk => h k (by omega)
theorem kp.sF {w : mx_Wd} {a b c j : Nat} {x : Int32} (h1 : a ≤ c) (h2 : c ≤ b) : kp w (mx_sF w c j x) a b := fun k hk => ⟨fun i => by rw [mx_F_F, if_neg (by omega)], mx_A_F⟩
theorem kp.sA {w : mx_Wd} {a b c : Nat} {f : Nat → Int32} (h1 : a ≤ c) (h2 : c ≤ b) : kp w (mx_sA w c f) a b := fun k hk => ⟨fun i => mx_F_A, by rw [mx_A_A, if_neg (by omega)]⟩
theorem kp.sL {w : mx_Wd} {a b c : Nat} {f : Nat → Int64} : kp w (mx_sL w c f) a b := fun k hk => ⟨fun i => mx_F_L, mx_A_L⟩
theorem kp.sD {w : mx_Wd} {a b c : Nat} {f : Nat → UInt64} : kp w (mx_sD w c f) a b := fun k hk => ⟨fun i => mx_F_D, mx_A_D⟩
