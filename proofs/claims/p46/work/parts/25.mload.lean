/-! the model: the graph's methods that change it -/
abbrev kG (w w' : mx_Wd) : Prop := kq [0, 1, 2, 21] [1, 2, 3] w w'
section MLd
variable {d : Nat} {w : mx_Wd} {a : aS}
end MLd
