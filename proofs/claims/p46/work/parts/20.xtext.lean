/-! texts and slots: pure; the class's input and slots -/
def fitC (c t : Nat) : Bool := if c = 35 then decide (48 ≤ t ∧ t ≤ 57) else decide (t = c)
def mtN (fm : List Nat) (x : aW) : Nat := (ff (fun k => !fitC (fm.getD k 0) (x.2 k)) (min x.1 fm.length)).getD (min x.1 fm.length)
theorem mtN_i (fm : List Nat) (x : aW) : mtN fm x ≤ min x.1 fm.length ∧ (∀ k, k < mtN fm x → fitC (fm.getD k 0) (x.2 k) = true) ∧ (mtN fm x < min x.1 fm.length → fitC (fm.getD (mtN fm x) 0) (x.2 (mtN fm x)) = false) := by
  rcases ff_c (fun k => !fitC (fm.getD k 0) (x.2 k)) (min x.1 fm.length) with ⟨i, h1, h2, h3, h4⟩ | ⟨h1, h2⟩
  · have e : mtN fm x = i := by unfold mtN; rw [h1]; rfl
    rw [e]
    exact ⟨by omega, fun k hk => by simpa using h4 k hk, fun _ => by simpa using h3⟩
  · have e : mtN fm x = min x.1 fm.length := by unfold mtN; rw [h1]; rfl
    rw [e]
    exact ⟨Nat.le_refl _, fun k hk => by simpa using h2 k hk, fun q => by omega⟩
theorem waT_v {x : aW} {c : Nat} (v : vT x) (h : x.1 < 20) (h1 : 32 ≤ c) (h2 : c ≤ 126) : vT (waB x c) := by
  refine ⟨h, fun j hj => ?_⟩
  have hj : j < x.1 + 1 := hj
  show 32 ≤ (if j = x.1 then c else x.2 j) ∧ (if j = x.1 then c else x.2 j) ≤ 126
  by_cases q : j = x.1
  · rw [if_pos q]; exact ⟨h1, h2⟩
  · rw [if_neg q]; exact v.2 j (by omega)
section XT
variable {d : Nat} {Q : mx_Po} {w : mx_Wd} {x : aW}
def xTB (w : mx_Wd) (n b : Nat) : mx_Wd := mx_sF (mx_sA w 9 (upd (mx_A w 9) n (nI b))) 8 1 (nI (n + 1))
theorem xTB_r {b : Nat} (r : rW w 8 1 9 x) : rW (xTB w x.1 b) 8 1 9 (waB x b) := by
  unfold xTB
  refine r.app ?_ ?_ <;> simp only [mx_F_F, mx_F_A, mx_F_L, mx_F_D, mx_A_F, mx_A_A, mx_A_L, mx_A_D, mx_L_F, mx_L_A, mx_L_L, mx_L_D, mx_D_F, mx_D_A, mx_D_L, mx_D_D, true_implies, false_implies, implies_true, not_true_eq_false, not_false_eq_true, and_true, true_and, and_self, ne_eq, Classical.not_not, if_true, if_false, ite_true, ite_false, eq_self_iff_true, forall_const, and_false, false_and, or_true, true_or, or_false, false_or, reduceIte, Nat.reduceEqDiff, Nat.reduceAdd]
theorem xTB_k {n b : Nat} : kp w (xTB w n b) 8 9 := (kp.sA (by omega) (by omega)).trans (kp.sF (by omega) (by omega))
end XT
section XSL
variable {d : Nat} {Q : mx_Po} {w : mx_Wd} {s : aL}
def slGet (s : aL) (x y : Int32) : Int32 := if aIn x 3 = true then (match s x.toNatClampNeg with
  | none => -(nI 10)
  | some q => if aIn y q.1 = true then nI (q.2 y.toNatClampNeg) else -(nI 11)) else -(nI 9)
def slPut (s : aL) (i : Nat) (q : aW) : aL := fun k => if k = i then some q else s k
end XSL
