/-! the model's eigenvectors -/
abbrev kV (w w' : mx_Wd) : Prop := kq [] [19, 20] w w'
section MEv
variable {d : Nat} {Q : mx_Po} {w : mx_Wd} {g : aG} {a : aS}
end MEv
