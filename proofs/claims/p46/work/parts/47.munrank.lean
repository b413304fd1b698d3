/-! a word by its number -/
def labF (g : aG) (s l : Nat) (z : Option Int) (left : Nat) : Nat := (ff (fun k => decide (left < fb_sm (thr g s l z) (k + 1))) (2 ^ gB g)).getD 0
def urE (g : aG) (s lab : Nat) : Nat := (ewl g s lab).getD 0
def urW (g : aG) : Nat → Nat → Option Int → Nat → aW → aW
  | 0, _, _, _, x => x
  | l + 1, s, z, left, x => urW g l (gE g (urE g s (labF g s l z left))) (subO z (labF g s l z left)) (left - fb_sm (thr g s l z) (labF g s l z left)) (waL x (labF g s l z left) (gB g))
theorem nwO_pos {g : aG} {l s : Nat} {z : Option Int} (h : 0 < nwO g l s z) : ∀ x, z = some x → 0 ≤ x ∧ x ≤ 40 := by
  intro x e
  subst e
  by_cases c : 0 ≤ x ∧ x ≤ 40
  · exact c
  · unfold nwO at h
    dsimp only at h
    rw [if_neg c] at h
    exact absurd h (Nat.lt_irrefl 0)
theorem labF_i {g : aG} (v : vG g) (hd : det g) {s l left : Nat} {z : Option Int} (h : left < nwO g (l + 1) s z) : labF g s l z left < 2 ^ gB g ∧ (∀ k, k ≤ labF g s l z left → fb_sm (thr g s l z) k ≤ left) ∧ left < fb_sm (thr g s l z) (labF g s l z left + 1) ∧ ewl g s (labF g s l z left) = some (urE g s (labF g s l z left)) ∧ left - fb_sm (thr g s l z) (labF g s l z left) < nwO g l (gE g (urE g s (labF g s l z left))) (subO z (labF g s l z left)) := by
  have hb := v.b
  rw [thr_sum v hd (nwO_pos (Nat.lt_of_le_of_lt (Nat.zero_le _) h))] at h
  have hlab : labF g s l z left < 2 ^ gB g ∧ left < fb_sm (thr g s l z) (labF g s l z left + 1) ∧ ∀ j, j < labF g s l z left → ¬ left < fb_sm (thr g s l z) (j + 1) := by
    rcases ff_c (fun k => decide (left < fb_sm (thr g s l z) (k + 1))) (2 ^ gB g) with ⟨i, h1, h2, h3, h4⟩ | ⟨h1, h2⟩
    · have e : labF g s l z left = i := by unfold labF; rw [h1]; rfl
      rw [e]
      exact ⟨h2, of_decide_eq_true h3, fun j hj => of_decide_eq_false (h4 j hj)⟩
    · have := of_decide_eq_false (h2 (2 ^ gB g - 1) (by omega))
      rw [Nat.sub_add_cancel (by omega)] at this
      exact absurd h this
  obtain ⟨h1, h2, h3⟩ := hlab
  have h4 : ∀ k, k ≤ labF g s l z left → fb_sm (thr g s l z) k ≤ left := by
    intro k hk
    cases k with
    | zero => exact Nat.zero_le _
    | succ k => exact Nat.not_lt.mp (h3 k (by omega))
  have h5 := h4 _ (Nat.le_refl _)
  rw [fb_sm_succ] at h2
  cases q : ewl g s (labF g s l z left) with
  | none =>
    have : thr g s l z (labF g s l z left) = 0 := by unfold thr; rw [q]
    omega
  | some e =>
    have e1 : urE g s (labF g s l z left) = e := by unfold urE; rw [q]; rfl
    have e2 : thr g s l z (labF g s l z left) = nwO g l (gE g e) (subO z (labF g s l z left)) := by
      unfold thr
      rw [q]
    rw [e1, fb_sm_succ]
    exact ⟨h1, h4, h2, rfl, by omega⟩
theorem urW_v {g : aG} (v : vG g) (hd : det g) : ∀ {l s left : Nat} {z : Option Int} {x : aW}, s < gN g → left < nwO g l s z → vW x → x.1 + gB g * l ≤ 40 → vW (urW g l s z left x)
  | 0, _, _, _, _, _, _, vx, _ => vx
  | l + 1, s, left, z, x, hs, h, vx, hx => by
    obtain ⟨h1, h2, h3, h4, h5⟩ := labF_i v hd h
    have he := ewl_i h4
    rw [Nat.mul_succ] at hx
    show vW (urW g l _ _ _ _)
    refine urW_v (l := l) v hd (v.e he.1).2.2 h5 (waL_v vx (by omega)) ?_
    rw [waL_n]
    omega
def l_cl (t : Int64) : Nat := t.toInt.toNat
theorem l_cl_n {k : Nat} (h : k < 2 ^ 63) : l_cl (lN k) = k := by
  unfold l_cl
  rw [pk_lT h]
  rfl
noncomputable def oUnrank (a : aS) (x y z : Int32) (t : Int64) : aR := if hnd a.1 x y z (detB a.1) = 0 then (if 0 ≤ t ∧ l_cl t < nwO a.1 y.toNatClampNeg x.toNatClampNeg (zO z) then (nI (urW a.1 y.toNatClampNeg x.toNatClampNeg (zO z) (l_cl t) (0, fun _ => 0)).1, sWd a (urW a.1 y.toNatClampNeg x.toNatClampNeg (zO z) (l_cl t) (0, fun _ => 0))) else oErr 5 a) else oErr (hnd a.1 x y z (detB a.1)) a
theorem oUnrank_v {a : aS} {x y z : Int32} {t : Int64} (v : vS a) : vS (oUnrank a x y z t).2 := by
  have hb := v.1.b
  unfold oUnrank
  split
  · rename_i c
    obtain ⟨s, l, rfl, hs, rfl, hl, hz, hd⟩ := hnd_0 v.1 c
    rw [nI_clamp (by omega), nI_clamp (by omega)]
    split
    · rename_i c1
      have : gB a.1 * l ≤ 4 * 10 := Nat.mul_le_mul hb.2.2.2.1 hl
      exact sWd_v v (urW_v v.1 (pB_iff.mp hd) hs c1.2 vW_0 (by show 0 + _ ≤ 40; omega))
    · exact v
  · exact v
/-- the weight left as a number of the machine -/
def zR (all : Nat) (o : Int32) (z : Option Int) : Prop := (all = 1 ∧ z = none) ∨ (all = 0 ∧ z = some o.toInt ∧ 0 ≤ o.toInt ∧ o.toInt ≤ 40)
section MUn
variable {d : Nat} {Q : mx_Po} {w : mx_Wd} {g : aG} {a : aS}
theorem z_subT {o : Int32} {p : Nat} (h0 : 0 ≤ o.toInt) (hp : p ≤ 4) : (o - nI p).toInt = o.toInt - (p : Int) := by
  have h1 := fb_rng o
  have h2 : (nI p).toInt = (p : Int) := nI_toInt (by omega)
  rw [fb_subI (by omega) (by omega), h2]
theorem zR_next {l s lab all : Nat} {o : Int32} {z : Option Int} (hz : zR all o z) (hp : lab < 16) (h : 0 < nwO g l s (subO z lab)) : zR all (o - nI (pop lab)) (subO z lab) := by
  rcases hz with ⟨rfl, rfl⟩ | ⟨rfl, rfl, h0, h40⟩
  · exact Or.inl ⟨rfl, rfl⟩
  · have h1 : 0 ≤ o.toInt - (pop lab : Int) ∧ o.toInt - (pop lab : Int) ≤ 40 := nwO_pos h _ rfl
    rw [← z_subT h0 (pop_4 hp)] at h1
    exact Or.inr ⟨rfl, by unfold subO; rw [z_subT h0 (pop_4 hp)]; rfl, h1⟩
theorem rWy.kept {n : Nat} {w w' : mx_Wd} (h : rWy g n w) (k : mx_L w' 16 = mx_L w 16) : rWy g n w' := by
  intro l s o h1 h2 h3
  rw [k]
  exact h l s o h1 h2 h3
end MUn
