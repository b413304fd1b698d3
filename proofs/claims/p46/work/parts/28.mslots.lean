/-! the model: slots, snapshot, the text read -/
def cpF {α : Type} (f g : Nat → α) (n : Nat) : Nat → α := fun j => if j < n then g j else f j
theorem cpF_s {f g : Nat → Int32} {n : Nat} : upd (cpF f g n) n (g n) = cpF f g (n + 1) := by
  funext j
  unfold cpF
  by_cases c : j = n
  · subst c
    rw [pk_us, if_pos (by omega)]
  · rw [pk_un c]
    by_cases q : j < n
    · rw [if_pos q, if_pos (by omega)]
    · rw [if_neg q, if_neg (by omega)]
theorem cpF_0 {f g : Nat → Int32} : cpF f g 0 = f := funext fun j => if_neg (by omega)
theorem cpF_in {α : Type} {f g : Nat → α} {n j : Nat} (h : j < n) : cpF f g n j = g j := if_pos h
section MSl
variable {d : Nat} {Q : mx_Po} {w : mx_Wd} {a : aS} {x : aW}
end MSl
