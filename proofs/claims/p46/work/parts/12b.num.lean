/-! numbers: what simp may use of nI -/
theorem zI_lt {a : Nat} (h : a < 2 ^ 31) : (nI a < 0) = False := eq_false (nI_pos h)
theorem zI_ge {a : Nat} (h : a < 2 ^ 31) : (0 ≤ nI a) = True := eq_true (nI_pos' h)
theorem zI_eq {a : Nat} (h : a < 2 ^ 31) : (nI a = 0) = (a = 0) := by
  refine propext ⟨fun q => ?_, fun q => by rw [q, nI_0]⟩
  rcases Nat.eq_zero_or_pos a with z | z
  · exact z
  · exact absurd q (nI_ne0 z h)
theorem zI_gt {a : Nat} (h : a < 2 ^ 31) : (0 < nI a) = (0 < a) := by
  rw [← nI_0]
  exact propext (nI_ltI (by omega) h)
theorem zI_le {a : Nat} (h : a < 2 ^ 31) : (nI a ≤ 0) = (a = 0) := by
  rw [← nI_0, propext (nI_leI h (by omega))]
  exact propext ⟨fun h => by omega, fun h => by omega⟩
theorem nI_leE {a b : Nat} (ha : a < 2 ^ 31) (hb : b < 2 ^ 31) : (nI a ≤ nI b) = (a ≤ b) := propext (nI_leI ha hb)
theorem nI_ltE {a b : Nat} (ha : a < 2 ^ 31) (hb : b < 2 ^ 31) : (nI a < nI b) = (a < b) := propext (nI_ltI ha hb)
theorem nI_eqE {a b : Nat} (ha : a < 2 ^ 31) (hb : b < 2 ^ 31) : (nI a = nI b) = (a = b) := propext (nI_eq ha hb)
theorem nI_inE {a n : Nat} (ha : a < 2 ^ 31) : vp_in (nI a) n = (a < n) := by
  unfold vp_in
  rw [nI_clamp ha]
  refine propext ⟨fun h => ?_, fun h q => ?_⟩
  · exact Nat.not_le.mp fun z => h (Or.inr z)
  · rcases q with q | q
    · exact nI_pos ha q
    · omega
/-- an argument that is an index below n -/
def aIn (x : Int32) (n : Nat) : Bool := decide (0 ≤ x.toInt ∧ x.toInt < (n : Int))
theorem aIn_c (x : Int32) {n : Nat} (hn : n < 2 ^ 31) : (x < 0 ∧ aIn x n = false) ∨ (¬ x < 0 ∧ nI n ≤ x ∧ aIn x n = false) ∨ ∃ j, j < n ∧ x = nI j ∧ aIn x n = true := by
  rcases pk_ix x hn with h | h | ⟨j, hj, rfl⟩
  · refine Or.inl ⟨h, ?_⟩
    rw [Int32.lt_iff_toInt_lt, Int32.toInt_zero] at h
    simp only [aIn, decide_eq_false_iff_not]
    omega
  · by_cases h0 : x < 0
    · refine Or.inl ⟨h0, ?_⟩
      rw [Int32.lt_iff_toInt_lt, Int32.toInt_zero] at h0
      simp only [aIn, decide_eq_false_iff_not]
      omega
    · refine Or.inr (Or.inl ⟨h0, h, ?_⟩)
      rw [Int32.le_iff_toInt_le, nI_toInt hn] at h
      simp only [aIn, decide_eq_false_iff_not]
      omega
  · refine Or.inr (Or.inr ⟨j, hj, rfl, ?_⟩)
    simp only [aIn, decide_eq_true_eq]
    rw [nI_toInt (by omega)]
    omega
theorem aIn_nI {j n : Nat} (h : j < 2 ^ 31) : aIn (nI j) n = decide (j < n) := by
  unfold aIn
  rw [nI_toInt h]
  congr 1
  exact propext ⟨fun q => by omega, fun q => by omega⟩
theorem aIn_x {x : Int32} {n : Nat} (hn : n < 2 ^ 31) (h : aIn x n = true) : ∃ j, j < n ∧ x = nI j := by
  rcases aIn_c x hn with ⟨_, q⟩ | ⟨_, _, q⟩ | ⟨j, hj, e, _⟩
  · rw [h] at q; cases q
  · rw [h] at q; cases q
  · exact ⟨j, hj, e⟩
/-- upwards: what holds at the end and is handed down by every step holds from the start -/
theorem up_ind {P : Nat → Prop} {m : Nat} (hm : P m) (hs : ∀ i, i < m → P (i + 1) → P i) : ∀ i, i ≤ m → P i := by
  intro i hi
  obtain ⟨k, rfl⟩ : ∃ k, m = i + k := ⟨m - i, by omega⟩
  clear hi
  induction k generalizing i with
  | zero => exact hm
  | succ k ih => exact hs i (by omega) (ih (i + 1) (by rw [show i + 1 + k = i + (k + 1) by omega]; exact hm) (fun j hj => hs j (by omega)))
theorem c_le {a b : Nat} {A B : Prop} (ha : a < 2 ^ 31) (hb : b < 2 ^ 31) (f : a ≤ b → A) (g : b < a → B) : (nI a ≤ nI b → A) ∧ (¬ nI a ≤ nI b → B) := ⟨fun h => f ((nI_leI ha hb).mp h), fun h => g (Nat.not_le.mp fun q => h ((nI_leI ha hb).mpr q))⟩
theorem c_lt {a b : Nat} {A B : Prop} (ha : a < 2 ^ 31) (hb : b < 2 ^ 31) (f : a < b → A) (g : b ≤ a → B) : (nI a < nI b → A) ∧ (¬ nI a < nI b → B) := ⟨fun h => f ((nI_ltI ha hb).mp h), fun h => g (Nat.not_lt.mp fun q => h ((nI_ltI ha hb).mpr q))⟩
theorem z_ite {p : Prop} [Decidable p] : ((if p then nI 1 else nI 0) = 0) = ¬ p := by
  by_cases h : p
  · rw [if_pos h]; exact propext ⟨fun q => absurd q (by decide), fun q => absurd h q⟩
  · rw [if_neg h]; exact propext ⟨fun _ => h, fun _ => by decide⟩
theorem z_bool {b : Bool} : ((if b = true then nI 1 else nI 0) = 0) = (b = false) := by
  cases b <;> decide
theorem z01_0 : (nI 0 = 0 ∨ nI 0 = 1) = True := eq_true (Or.inl (by decide))
theorem z01_1 : (nI 1 = 0 ∨ nI 1 = 1) = True := eq_true (Or.inr (by decide))
theorem one_nI : (1 : Int32) = nI 1 := by decide
