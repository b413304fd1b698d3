/-! the model: a state split -/
def gWi (n : Nat) (c : aG) : aG := (n, c.2)
section MSp
variable {d : Nat} {w : mx_Wd} {a : aS}
end MSp
