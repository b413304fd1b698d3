/-! the model's encoder -/
theorem iIn_s1 {x : Int32} {n : Nat} (h1 : 1 ≤ n) (hn : n < 2 ^ 31) : iIn x (nI 0) (nI (n - 1)) = aIn x n := by
  rw [iIn_a (by omega), Nat.sub_add_cancel h1]
section MEn
variable {d : Nat} {Q : mx_Po} {w : mx_Wd} {g : aG} {a : aS}
def mWB (w : mx_Wd) (n b : Nat) : mx_Wd := mx_sF (mx_sA w 4 (upd (mx_A w 4) n (nI b))) 0 7 (nI (n + 1))
theorem mWB_r {x : aW} {b : Nat} (r : rW w 0 7 4 x) : rW (mWB w x.1 b) 0 7 4 (waB x b) := by
  unfold mWB
  refine r.app ?_ ?_ <;> simp only [mx_F_F, mx_F_A, mx_F_L, mx_F_D, mx_A_F, mx_A_A, mx_A_L, mx_A_D, mx_L_F, mx_L_A, mx_L_L, mx_L_D, mx_D_F, mx_D_A, mx_D_L, mx_D_D, true_implies, false_implies, implies_true, not_true_eq_false, not_false_eq_true, and_true, true_and, and_self, ne_eq, Classical.not_not, if_true, if_false, ite_true, ite_false, eq_self_iff_true, forall_const, and_false, false_and, or_true, true_or, or_false, false_or, reduceIte, Nat.reduceEqDiff, Nat.reduceAdd]
theorem mWB_k {n b : Nat} : kq [7] [4] w (mWB w n b) := (kq.sA (by decide)).trans (kq.sF (by decide))
theorem kqG {fs as : List Nat} {w' : mx_Wd} (k : kq fs as w w') (h : 0 ∉ fs ∧ 1 ∉ fs ∧ 2 ∉ fs ∧ 1 ∉ as ∧ 2 ∉ as ∧ 3 ∉ as) (r : rG w 0 0 1 2 1 2 3 g) : rG w' 0 0 1 2 1 2 3 g := r.kept (k.1 0 h.1) (k.1 1 h.2.1) (k.1 2 h.2.2.1) (k.2 1 h.2.2.2.1) (k.2 2 h.2.2.2.2.1) (k.2 3 h.2.2.2.2.2)
end MEn
