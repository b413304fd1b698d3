/-! the model's decoder -/
section MDc
variable {d : Nat} {w : mx_Wd} {a : aS}
theorem kqW {fs as : List Nat} {w' : mx_Wd} {x : aW} (k : kq fs as w w') (h : 7 ∉ fs ∧ 4 ∉ as) (r : rW w 0 7 4 x) : rW w' 0 7 4 x := r.kept (k.1 7 h.1) (k.2 4 h.2)
end MDc
