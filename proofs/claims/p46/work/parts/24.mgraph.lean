/-! the model: frames; its graph -/
/-- the model outside the fields fs and the rows as stays -/
def kq (fs as : List Nat) (w w' : mx_Wd) : Prop := (∀ j, j ∉ fs → mx_F w' 0 j = mx_F w 0 j) ∧ ∀ k, k ∉ as → mx_A w' k = mx_A w k
theorem kq.refl {fs as : List Nat} {w : mx_Wd} : kq fs as w w := ⟨fun _ _ => rfl, fun _ _ => rfl⟩
theorem kq.trans {fs as : List Nat} {w w1 w2 : mx_Wd} (h : kq fs as w w1) (h' : kq fs as w1 w2) : kq fs as w w2 := ⟨fun j hj => (h'.1 j hj).trans (h.1 j hj), fun k hk => (h'.2 k hk).trans (h.2 k hk)⟩
theorem kq.sF {fs as : List Nat} {w : mx_Wd} {j : Nat} {x : Int32} (hj : j ∈ fs) : kq fs as w (mx_sF w 0 j x) := ⟨fun i hi => by rw [mx_F_F, if_neg (fun (q : 0 = 0 ∧ i = j) => hi (q.2 ▸ hj))], fun _ _ => mx_A_F⟩
theorem kq.sA {fs as : List Nat} {w : mx_Wd} {k : Nat} {f : Nat → Int32} (hk : k ∈ as) : kq fs as w (mx_sA w k f) := ⟨fun _ _ => mx_F_A, fun i hi => by rw [mx_A_A, if_neg (fun (q : i = k) => hi (q ▸ hk))]⟩
theorem kq.sL {fs as : List Nat} {w : mx_Wd} {k : Nat} {f : Nat → Int64} : kq fs as w (mx_sL w k f) := ⟨fun _ _ => mx_F_L, fun _ _ => mx_A_L⟩
theorem kq.sD {fs as : List Nat} {w : mx_Wd} {k : Nat} {f : Nat → UInt64} : kq fs as w (mx_sD w k f) := ⟨fun _ _ => mx_F_D, fun _ _ => mx_A_D⟩
theorem kq.wide {fs as fs' as' : List Nat} {w w' : mx_Wd} (h : kq fs as w w') (h1 : ∀ j, j ∈ fs → j ∈ fs') (h2 : ∀ j, j ∈ as → j ∈ as') : kq fs' as' w w' := ⟨fun j hj => h.1 j fun q => hj (h1 j q), fun k hk => h.2 k fun q => hk (h2 k q)⟩
section MLI
variable {w w' : mx_Wd} {a : aS}
theorem ni2 {j a b : Nat} (h : j ≠ a ∧ j ≠ b) : j ∉ [a, b] := by simp [h]
end MLI
def iIn (x l h : Int32) : Bool := decide (l.toInt ≤ x.toInt ∧ x.toInt ≤ h.toInt)
theorem iIn_s {x : Int32} {n : Nat} (hn : n < 2 ^ 31) : iIn x (nI 0) (nI n - nI 1) = aIn x n := by
  have e : (nI n - nI 1).toInt = (n : Int) - 1 := by
    by_cases c : n = 0
    · subst c; rfl
    · rw [Int32.sub_eq_add_neg, z_dec (by omega), nI_toInt (by omega)]
      omega
  unfold iIn aIn
  rw [e]
  refine decide_eq_decide.mpr ?_
  show (0 : Int) ≤ _ ∧ _ ↔ _
  omega
theorem iIn_n {x : Int32} {a b : Nat} (ha : a < 2 ^ 31) (hb : b < 2 ^ 31) : iIn x (nI a) (nI b) = decide ((a : Int) ≤ x.toInt ∧ x.toInt ≤ (b : Int)) := by
  unfold iIn
  rw [nI_toInt ha, nI_toInt hb]
theorem iIn_nn {x a b : Nat} (hx : x < 2 ^ 31) (ha : a < 2 ^ 31) (hb : b < 2 ^ 31) : iIn (nI x) (nI a) (nI b) = decide (a ≤ x ∧ x ≤ b) := by
  rw [iIn_n ha hb, nI_toInt hx]
  refine decide_eq_decide.mpr ?_
  omega
theorem iIn_a {x : Int32} {b : Nat} (hb : b < 2 ^ 31) : iIn x (nI 0) (nI b) = aIn x (b + 1) := by
  rw [iIn_n (by omega) hb]
  unfold aIn
  refine decide_eq_decide.mpr ?_
  show (0 : Int) ≤ _ ∧ _ ↔ _
  omega
theorem z01_b {b : Bool} : ((if b = true then nI 1 else nI 0) = 0 ∨ (if b = true then nI 1 else nI 0) = 1) = True := eq_true (by cases b <;> decide)
section MG
variable {d : Nat} {Q : mx_Po} {w : mx_Wd} {g : aG}
def mLy (w : mx_Wd) (m : Nat) (x y z : Int32) : mx_Wd := mx_sF (mx_sA (mx_sA (mx_sA w 1 (upd (mx_A w 1) m x)) 2 (upd (mx_A w 2) m y)) 3 (upd (mx_A w 3) m z)) 0 1 (nI (m + 1))
theorem mLy_r {x y z : Nat} (r : rG w 0 0 1 2 1 2 3 g) : rG (mLy w (gM g) (nI x) (nI y) (nI z)) 0 0 1 2 1 2 3 (gAdd g x y z) := by
  unfold mLy
  refine r.add ?_ ?_ ?_ ?_ ?_ ?_ <;> simp only [mx_F_F, mx_F_A, mx_F_L, mx_F_D, mx_A_F, mx_A_A, mx_A_L, mx_A_D, mx_L_F, mx_L_A, mx_L_L, mx_L_D, mx_D_F, mx_D_A, mx_D_L, mx_D_D, true_implies, false_implies, implies_true, not_true_eq_false, not_false_eq_true, and_true, true_and, and_self, ne_eq, Classical.not_not, if_true, if_false, ite_true, ite_false, eq_self_iff_true, forall_const, and_false, false_and, or_true, true_or, or_false, false_or, reduceIte, Nat.reduceEqDiff, Nat.reduceAdd, Nat.reduceEqDiff]
theorem mLy_k {m : Nat} {x y z : Int32} {fs as : List Nat} (h : 1 ∈ fs) (h1 : 1 ∈ as) (h2 : 2 ∈ as) (h3 : 3 ∈ as) : kq fs as w (mLy w m x y z) := (((kq.sA h1).trans (kq.sA h2)).trans (kq.sA h3)).trans (kq.sF h)
theorem mLy_21 {m : Nat} {x y z : Int32} : mx_F (mLy w m x y z) 0 21 = mx_F w 0 21 := by
  unfold mLy
  simp only [mx_F_F, mx_F_A, mx_F_L, mx_F_D, mx_A_F, mx_A_A, mx_A_L, mx_A_D, mx_L_F, mx_L_A, mx_L_L, mx_L_D, mx_D_F, mx_D_A, mx_D_L, mx_D_D, true_implies, false_implies, implies_true, not_true_eq_false, not_false_eq_true, and_true, true_and, and_self, ne_eq, Classical.not_not, if_true, if_false, ite_true, ite_false, eq_self_iff_true, forall_const, and_false, false_and, or_true, true_or, or_false, false_or, reduceIte, Nat.reduceEqDiff, Nat.reduceAdd, Nat.reduceEqDiff]
end MG
