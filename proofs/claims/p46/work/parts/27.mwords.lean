/-! the model: its word, its text, its slots -/
theorem z_sub1 {a : Nat} (h : a ≤ 1) : nI 1 - nI a = nI (1 - a) := by
  rcases (show a = 0 ∨ a = 1 by omega) with rfl | rfl <;> decide
section MW
variable {d : Nat} {Q : mx_Po} {w : mx_Wd} {a : aS} {g : aG} {x : aW}
/-- one more sign inverted -/
theorem rW.inv {w' : mx_Wd} {k i c j : Nat} (r : rW w k i c (wInv x j)) (h1 : mx_F w' k i = mx_F w k i) (h2 : mx_A w' c = upd (mx_A w c) j (nI (1 - x.2 j))) : rW w' k i c (wInv x (j + 1)) := by
  refine ⟨h1.trans r.1, fun q hq => ?_⟩
  rw [h2, wInv_s]
  dsimp only
  by_cases e : q = j
  · rw [e, pk_us, if_pos rfl]
  · rw [pk_un e, if_neg e]
    exact r.2 q hq
theorem rW.at {k i c j : Nat} (r : rW w k i c (wInv x j)) (hj : j < x.1) : mx_A w c j = nI (x.2 j) := by
  rw [r.2 j hj]
  exact congrArg nI (if_neg (by omega))
theorem iIn_p {y : Int32} : iIn y (nI 1) (nI 4) = pIn y := by
  rw [iIn_n (by omega) (by omega)]
  rfl
end MW
