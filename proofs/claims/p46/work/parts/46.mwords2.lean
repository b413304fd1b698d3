/-! the model: words counted -/
def hnd (g : aG) (x y z : Int32) (D : Bool) : Nat := if aIn x (gN g) = true then (if aIn y 11 = true ∧ -(nI 1) ≤ z then (if D = true then 0 else 6) else 3) else 1
def zO (z : Int32) : Option Int := if z = -(nI 1) then none else some z.toInt
noncomputable def oCount (a : aS) (x y z : Int32) : Int64 × aS := (if hnd a.1 x y z (detB a.1) = 0 then lN (nwO a.1 y.toNatClampNeg x.toNatClampNeg (zO z)) else (-(nI (hnd a.1 x y z (detB a.1)))).toInt64, a)
def rWy (g : aG) (n : Nat) (w : mx_Wd) : Prop := ∀ l s o, l ≤ n → s < gN g → o < 41 → mx_L w 16 ((l * 16 + s) * 41 + o) = lN (cW true g l s o)
section MWo
variable {d : Nat} {Q : mx_Po} {w : mx_Wd} {g : aG} {a : aS}
theorem hnd_0 {x y z : Int32} {D : Bool} (v : vG g) (h : hnd g x y z D = 0) : ∃ s l, x = nI s ∧ s < gN g ∧ y = nI l ∧ l ≤ 10 ∧ -(nI 1) ≤ z ∧ D = true := by
  have hb := v.b
  unfold hnd at h
  split at h
  · rename_i c
    split at h
    · rename_i c1
      split at h
      · rename_i c2
        obtain ⟨s, hs, rfl⟩ := aIn_x (show gN g < 2 ^ 31 by omega) c
        obtain ⟨l, hl, rfl⟩ := aIn_x (show 11 < 2 ^ 31 by omega) c1.1
        exact ⟨s, l, rfl, hs, rfl, by omega, c1.2, c2⟩
      · cases h
    · cases h
  · cases h
theorem hnd_le {x y z : Int32} {D : Bool} : hnd g x y z D ≤ 6 := by
  unfold hnd
  split
  · split
    · split <;> omega
    · omega
  · omega
end MWo
