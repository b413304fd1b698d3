/-! the class: the whole state over a frame -/
section XLI
variable {w w' : mx_Wd} {a : aS} {lo hi : Nat}
theorem kpG {g : aG} (k : kp w w' lo hi) (h : hi < 1 ∨ 4 < lo) (r : rG w 1 4 5 6 2 3 4 g) : rG w' 1 4 5 6 2 3 4 g := r.kept ((k 1 (by omega)).1 _) ((k 1 (by omega)).1 _) ((k 1 (by omega)).1 _) (k 2 (by omega)).2 (k 3 (by omega)).2 (k 4 (by omega)).2
theorem kpW {x : aW} (k : kp w w' lo hi) (h : hi < 6 ∨ 7 < lo) (r : rW w 6 1 7 x) : rW w' 6 1 7 x := r.kept ((k 6 (by omega)).1 _) (k 7 (by omega)).2
theorem kpT {x : aW} (k : kp w w' lo hi) (h : hi < 8 ∨ 9 < lo) (r : rW w 8 1 9 x) : rW w' 8 1 9 x := r.kept ((k 8 (by omega)).1 _) (k 9 (by omega)).2
theorem kpS {q : Option (aG × aW)} (k : kp w w' lo hi) (h : 0 < lo ∧ hi < 62) (r : rSX w q) : rSX w' q := r.kept ((k 0 (by omega)).1 _) (fun c j hc => (k c (by omega)).1 j) (fun c hc _ => (k c (by omega)).2)
theorem kpL {s : aL} (k : kp w w' lo hi) (h : hi < 57 ∨ 61 < lo) (r : rLX w s) : rLX w' s := r.kept fun c h1 h2 => (k c (by omega)).2
theorem kpE {g : aG} {n : aE} (k : kp w w' lo hi) (h : hi < 48 ∨ 50 < lo) (r : rEX w g n) : rEX w' g n := r.kept (fun j => (k 48 (by omega)).1 j) (k 49 (by omega)).2 (k 50 (by omega)).2
theorem kpV {g : aG} (k : kp w w' lo hi) (h : hi < 40 ∨ 46 < lo) (r : rVX w g) : rVX w' g := r.kept fun c h1 h2 => (k c (by omega)).2
/-- a scratch cell is nobody's -/
theorem RX.scr (r : RX w a) (k : kp w w' lo hi) (h : (5 ≤ lo ∧ hi ≤ 5) ∨ (10 ≤ lo ∧ hi ≤ 39) ∨ (47 ≤ lo ∧ hi ≤ 47) ∨ (51 ≤ lo ∧ hi ≤ 56)) : RX w' a :=
  ⟨kpG k (by omega) r.1, kpW k (by omega) r.2.1, kpT k (by omega) r.2.2.1, kpS k (by omega) r.2.2.2.1, kpL k (by omega) r.2.2.2.2.1, kpE k (by omega) r.2.2.2.2.2.1, kpV k (by omega) r.2.2.2.2.2.2⟩
theorem xOff_k : (∀ k, k ≠ 48 → ∀ j, mx_F (xOff w) k j = mx_F w k j) ∧ (∀ k, k ≠ 40 → mx_A (xOff w) k = mx_A w k) :=
  ⟨fun k hk j => by unfold xOff; simp only [mx_F_F, mx_F_A, mx_F_L, mx_F_D, mx_A_F, mx_A_A, mx_A_L, mx_A_D, mx_L_F, mx_L_A, mx_L_L, mx_L_D, mx_D_F, mx_D_A, mx_D_L, mx_D_D, true_implies, false_implies, implies_true, not_true_eq_false, not_false_eq_true, and_true, true_and, and_self, ne_eq, Classical.not_not, if_true, if_false, ite_true, ite_false, eq_self_iff_true, forall_const, and_false, false_and, or_true, true_or, or_false, false_or, reduceIte, Nat.reduceEqDiff, Nat.reduceAdd, hk], fun k hk => by unfold xOff; simp only [mx_F_F, mx_F_A, mx_F_L, mx_F_D, mx_A_F, mx_A_A, mx_A_L, mx_A_D, mx_L_F, mx_L_A, mx_L_L, mx_L_D, mx_D_F, mx_D_A, mx_D_L, mx_D_D, true_implies, false_implies, implies_true, not_true_eq_false, not_false_eq_true, and_true, true_and, and_self, ne_eq, Classical.not_not, if_true, if_false, ite_true, ite_false, eq_self_iff_true, forall_const, and_false, false_and, or_true, true_or, or_false, false_or, reduceIte, Nat.reduceEqDiff, Nat.reduceAdd, hk]⟩
/-- a new graph: encoder off, eigenvectors forgotten -/
theorem RX.gr {g : aG} (r : RX w a) (k : kp w w' 1 5) (h : rG w' 1 4 5 6 2 3 4 g) : RX (xOff w') (sGr a g) := by
  obtain ⟨kF, kA⟩ := xOff_k (w := w')
  refine ⟨h.kept (kF _ (by omega) _) (kF _ (by omega) _) (kF _ (by omega) _) (kA _ (by omega)) (kA _ (by omega)) (kA _ (by omega)), (kpW k (by omega) r.2.1).kept (kF _ (by omega) _) (kA _ (by omega)), (kpT k (by omega) r.2.2.1).kept (kF _ (by omega) _) (kA _ (by omega)), (kpS k (by omega) r.2.2.2.1).kept (kF _ (by omega) _) (fun c j hc => kF c (by omega) j) (fun c hc _ => kA c (by omega)), (kpL k (by omega) r.2.2.2.2.1).kept (fun c h1 h2 => kA c (by omega)), ?_, ?_⟩
  · show mx_F (xOff w') 48 3 = nI 0
    unfold xOff
    simp only [mx_F_F, mx_F_A, mx_F_L, mx_F_D, mx_A_F, mx_A_A, mx_A_L, mx_A_D, mx_L_F, mx_L_A, mx_L_L, mx_L_D, mx_D_F, mx_D_A, mx_D_L, mx_D_D, true_implies, false_implies, implies_true, not_true_eq_false, not_false_eq_true, and_true, true_and, and_self, ne_eq, Classical.not_not, if_true, if_false, ite_true, ite_false, eq_self_iff_true, forall_const, and_false, false_and, or_true, true_or, or_false, false_or, reduceIte, Nat.reduceEqDiff, Nat.reduceAdd]
  · refine rVX.off fun p hp hp4 => ?_
    unfold xOff
    simp only [mx_F_F, mx_F_A, mx_F_L, mx_F_D, mx_A_F, mx_A_A, mx_A_L, mx_A_D, mx_L_F, mx_L_A, mx_L_L, mx_L_D, mx_D_F, mx_D_A, mx_D_L, mx_D_D, true_implies, false_implies, implies_true, not_true_eq_false, not_false_eq_true, and_true, true_and, and_self, ne_eq, Classical.not_not, if_true, if_false, ite_true, ite_false, eq_self_iff_true, forall_const, and_false, false_and, or_true, true_or, or_false, false_or, reduceIte, Nat.reduceEqDiff, Nat.reduceAdd]
    rw [fillF_in (by omega)]
theorem RX.wd {x : aW} (r : RX w a) (k : kp w w' 6 7) (h : rW w' 6 1 7 x) : RX w' (sWd a x) :=
  ⟨kpG k (by omega) r.1, h, kpT k (by omega) r.2.2.1, kpS k (by omega) r.2.2.2.1, kpL k (by omega) r.2.2.2.2.1, kpE k (by omega) r.2.2.2.2.2.1, kpV k (by omega) r.2.2.2.2.2.2⟩
theorem RX.tx {x : aW} (r : RX w a) (k : kp w w' 8 9) (h : rW w' 8 1 9 x) : RX w' (sTx a x) :=
  ⟨kpG k (by omega) r.1, kpW k (by omega) r.2.1, h, kpS k (by omega) r.2.2.2.1, kpL k (by omega) r.2.2.2.2.1, kpE k (by omega) r.2.2.2.2.2.1, kpV k (by omega) r.2.2.2.2.2.2⟩
theorem RX.sl {s : aL} (r : RX w a) (k : kp w w' 57 61) (h : rLX w' s) : RX w' (sSl a s) :=
  ⟨kpG k (by omega) r.1, kpW k (by omega) r.2.1, kpT k (by omega) r.2.2.1, kpS k (by omega) r.2.2.2.1, h, kpE k (by omega) r.2.2.2.2.2.1, kpV k (by omega) r.2.2.2.2.2.2⟩
theorem RX.en {n : aE} (r : RX w a) (k : kp w w' 48 51) (h : rEX w' a.1 n) : RX w' (sEn a n) :=
  ⟨kpG k (by omega) r.1, kpW k (by omega) r.2.1, kpT k (by omega) r.2.2.1, kpS k (by omega) r.2.2.2.1, kpL k (by omega) r.2.2.2.2.1, h, kpV k (by omega) r.2.2.2.2.2.2⟩
theorem RX.ev (r : RX w a) (k : kp w w' 40 47) (h : rVX w' a.1) : RX w' a :=
  ⟨kpG k (by omega) r.1, kpW k (by omega) r.2.1, kpT k (by omega) r.2.2.1, kpS k (by omega) r.2.2.2.1, kpL k (by omega) r.2.2.2.2.1, kpE k (by omega) r.2.2.2.2.2.1, h⟩
end XLI
/-- the answer, and the state after it -/
def oQX (r : aR) : mx_Po := fun o w' => o = some (.int r.1) ∧ RX w' r.2
def oQXl (r : Int64 × aS) : mx_Po := fun o w' => o = some (.long r.1) ∧ RX w' r.2
