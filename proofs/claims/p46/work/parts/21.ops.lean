/-! the operations on the abstract state, their answers -/
def sGr (a : aS) (g : aG) : aS := (g, a.2.1, a.2.2.1, a.2.2.2.1, a.2.2.2.2.1, none)
def sWd (a : aS) (x : aW) : aS := (a.1, x, a.2.2)
def sTx (a : aS) (x : aW) : aS := (a.1, a.2.1, x, a.2.2.2)
def sSl (a : aS) (s : aL) : aS := (a.1, a.2.1, a.2.2.1, a.2.2.2.1, s, a.2.2.2.2.2)
def sSn (a : aS) : aS := (a.1, a.2.1, a.2.2.1, some (a.1, a.2.1), a.2.2.2.2.1, a.2.2.2.2.2)
def sEn (a : aS) (n : aE) : aS := (a.1, a.2.1, a.2.2.1, a.2.2.2.1, a.2.2.2.2.1, n)
theorem sGr_v {a : aS} {g : aG} (v : vS a) (h : vG g) : vS (sGr a g) := ⟨h, v.2.1, v.2.2.1, v.2.2.2.1, v.2.2.2.2.1, fun _ _ _ q => by cases q⟩
theorem sWd_v {a : aS} {x : aW} (v : vS a) (h : vW x) : vS (sWd a x) := ⟨v.1, h, v.2.2.1, v.2.2.2.1, v.2.2.2.2.1, v.2.2.2.2.2⟩
theorem sTx_v {a : aS} {x : aW} (v : vS a) (h : vT x) : vS (sTx a x) := ⟨v.1, v.2.1, h, v.2.2.2.1, v.2.2.2.2.1, v.2.2.2.2.2⟩
theorem sSl_v {a : aS} {s : aL} (v : vS a) (h : vL s) : vS (sSl a s) := ⟨v.1, v.2.1, v.2.2.1, v.2.2.2.1, h, v.2.2.2.2.2⟩
theorem sSn_v {a : aS} (v : vS a) : vS (sSn a) := ⟨v.1, v.2.1, v.2.2.1, fun q e => by cases e; exact ⟨v.1, v.2.1⟩, v.2.2.2.2.1, v.2.2.2.2.2⟩
theorem sEn_v {a : aS} {n : aE} (v : vS a) (h : vE a.1 n) : vS (sEn a n) := ⟨v.1, v.2.1, v.2.2.1, v.2.2.2.1, v.2.2.2.2.1, h⟩
abbrev aR : Type := Int32 × aS
def oErr (k : Nat) (a : aS) : aR := (-(nI k), a)
def oRL (a : aS) (x y : Int32) : aR := if 0 ≤ x.toInt ∧ x.toInt ≤ y.toInt ∧ y.toInt ≤ 7 then (nI (y.toNatClampNeg + 1), sGr a (rlG x.toNatClampNeg y.toNatClampNeg)) else oErr 3 a
def oCh (a : aS) (x : Int32) : aR := if 1 ≤ x.toInt ∧ x.toInt ≤ 7 then (nI (2 * x.toNatClampNeg + 1), sGr a (chG x.toNatClampNeg)) else oErr 3 a
def oClear (a : aS) (x : Int32) : aR := if 1 ≤ x.toInt ∧ x.toInt ≤ 4 then (nI (gM a.1), sGr a (gN0 0 x.toNatClampNeg)) else oErr 3 a
def gSt (g : aG) : aG := (gN g + 1, gM g, gB g, gS g, gL g, gE g)
def oAddS (a : aS) : aR := if gN a.1 < 16 then (nI (gN a.1), sGr a (gSt a.1)) else oErr 4 a
def oAddE (a : aS) (x y z : Int32) : aR := if aIn x (gN a.1) = true ∧ aIn z (gN a.1) = true then (if aIn y (2 ^ gB a.1) = true then (if gM a.1 < 64 then (nI (gM a.1), sGr a (gAdd a.1 x.toNatClampNeg y.toNatClampNeg z.toNatClampNeg)) else oErr 4 a) else oErr 3 a) else oErr 1 a
def oRemE (a : aS) (x : Int32) : aR := if aIn x (gM a.1) = true then (nI (gM a.1 - 1), sGr a (gDrop a.1 x.toNatClampNeg)) else oErr 2 a
def oEdge (f : aG → Nat → Nat) (a : aS) (x : Int32) : aR := if aIn x (gM a.1) = true then (nI (f a.1 x.toNatClampNeg), a) else oErr 2 a
def oSplit (a : aS) (x y : Int32) : aR := if aIn x (gN a.1) = true then (if spOk a.1 x.toNatClampNeg y = true then (if gN a.1 < 16 ∧ gM a.1 + inD a.1 x.toNatClampNeg ≤ 64 then (nI (gN a.1), sGr a (spG a.1 x.toNatClampNeg y.toNatClampNeg)) else oErr 4 a) else oErr 3 a) else oErr 1 a
noncomputable def oBool (b : Bool) (a : aS) : aR := (if b = true then nI 1 else nI 0, a)
def oAppC (a : aS) (x : Int32) : aR := if 32 ≤ x.toInt ∧ x.toInt ≤ 126 then (if a.2.2.1.1 < 20 then (nI (a.2.2.1.1 + 1), sTx a (waB a.2.2.1 x.toNatClampNeg)) else oErr 4 a) else oErr 3 a
def oAppB (a : aS) (x : Int32) : aR := if aIn x 2 = true then (if a.2.1.1 < 40 then (nI (a.2.1.1 + 1), sWd a (waB a.2.1 x.toNatClampNeg)) else oErr 4 a) else oErr 3 a
def oClrW (a : aS) : aR := (nI a.2.1.1, sWd a (0, fun _ => 0))
def oBit (a : aS) (x : Int32) : aR := if aIn x a.2.1.1 = true then (nI (a.2.1.2 x.toNatClampNeg), a) else oErr 5 a
def oBal (a : aS) : aR := if a.2.1.1 % 2 = 1 then oErr 8 a else (nI (balJ a.2.1), sWd a (wInv a.2.1 (balJ a.2.1)))
def oInv (a : aS) (x : Int32) : aR := if aIn x (a.2.1.1 + 1) = true then (nI (onW (wInv a.2.1 x.toNatClampNeg)), sWd a (wInv a.2.1 x.toNatClampNeg)) else oErr 3 a
def oEnSt (a : aS) : aR := match a.2.2.2.2.2 with
  | none => oErr 7 a
  | some q => (nI q.2.2, a)
def pIn (x : Int32) : Bool := decide (1 ≤ x.toInt ∧ x.toInt ≤ 4)
noncomputable def oIsEn (a : aS) (x : Int32) : aR := if pIn x = true then oBool (isEncB a.1 x.toNatClampNeg) a else oErr 3 a
def oNewA (a : aS) (x y : Int32) : aR := if aIn x 3 = true then (if 20 < y.toInt then oErr 3 a else if y.toInt < 0 then oErr 12 a else (nI 1, sSl a (slPut a.2.2.2.2.1 x.toNatClampNeg (y.toNatClampNeg, fun _ => 0)))) else oErr 9 a
def oGetA (a : aS) (x y : Int32) : aR := (slGet a.2.2.2.2.1 x y, a)
def oPutA (a : aS) (x y z : Int32) : aR := if aIn x 3 = true then (if aIn z 10000 = true then (match a.2.2.2.2.1 x.toNatClampNeg with
    | none => oErr 10 a
    | some q => if aIn y q.1 = true then (nI (q.2 y.toNatClampNeg), sSl a (slPut a.2.2.2.2.1 x.toNatClampNeg (q.1, fun k => if k = y.toNatClampNeg then z.toNatClampNeg else q.2 k))) else oErr 11 a) else oErr 3 a) else oErr 9 a
def oSave (a : aS) : aR := (nI (gN a.1), sSn a)
def oRest (a : aS) : aR := match a.2.2.2.1 with
  | none => oErr 5 a
  | some q => (nI (gN q.1), sGr (sWd a q.2) q.1)
theorem t_c {x : Int32} {m n : Nat} (h : (m : Int) ≤ x.toInt ∧ x.toInt ≤ (n : Int)) : ∃ j, x = nI j ∧ m ≤ j ∧ j ≤ n ∧ j < 2 ^ 31 := by
  obtain ⟨j, hj, rfl⟩ := nI_of (x := x) (by rw [zi_lt0]; omega)
  rw [nI_toInt hj] at h
  exact ⟨j, rfl, by omega, by omega, hj⟩
theorem pIn_x {x : Int32} (h : pIn x = true) : ∃ p, x = nI p ∧ 1 ≤ p ∧ p ≤ 4 := by
  have := of_decide_eq_true h
  obtain ⟨j, h1, h2, h3, _⟩ := t_c (m := 1) (n := 4) this
  exact ⟨j, h1, h2, h3⟩
/-! what holds of every state stays -/
theorem rlG_v {d k : Nat} (hk : k ≤ 7) : vG (rlG d k) := (rlE_i hk (Nat.le_refl _)).1
theorem chG_v {c : Nat} (hc : c ≤ 7) : vG (chG c) := (chE_i hc (Nat.le_refl _)).1
theorem gN0_v {b : Nat} (h1 : 1 ≤ b) (h4 : b ≤ 4) : vG (gN0 0 b) := ⟨Nat.zero_le _, Nat.zero_le _, h1, h4, fun e he => absurd he (Nat.not_lt_zero _)⟩
theorem gSt_v {g : aG} (v : vG g) (h : gN g < 16) : vG (gSt g) := by
  refine ⟨h, v.2.1, v.2.2.1, v.2.2.2.1, fun e he => ?_⟩
  have := v.e he
  exact ⟨Nat.lt_succ_of_lt this.1, this.2.1, Nat.lt_succ_of_lt this.2.2⟩
theorem oRL_v {a : aS} {x y : Int32} (v : vS a) : vS (oRL a x y).2 := by
  unfold oRL
  split
  · rename_i h
    obtain ⟨k, rfl, _, hk, hk2⟩ := t_c (x := y) (m := 0) (n := 7) ⟨by have := h.1; have := h.2.1; omega, h.2.2⟩
    refine sGr_v v (rlG_v ?_)
    rw [nI_clamp hk2]
    exact hk
  · exact v
theorem oCh_v {a : aS} {x : Int32} (v : vS a) : vS (oCh a x).2 := by
  unfold oCh
  split
  · rename_i h
    obtain ⟨k, rfl, _, hk, hk2⟩ := t_c (x := x) (m := 1) (n := 7) h
    refine sGr_v v (chG_v ?_)
    rw [nI_clamp hk2]
    exact hk
  · exact v
theorem oClear_v {a : aS} {x : Int32} (v : vS a) : vS (oClear a x).2 := by
  unfold oClear
  split
  · rename_i h
    obtain ⟨k, rfl, h1, hk, hk2⟩ := t_c (x := x) (m := 1) (n := 4) h
    refine sGr_v v (gN0_v ?_ ?_) <;> rw [nI_clamp hk2] <;> assumption
  · exact v
theorem oAddS_v {a : aS} (v : vS a) : vS (oAddS a).2 := by
  unfold oAddS
  split
  · rename_i h
    exact sGr_v v (gSt_v v.1 h)
  · exact v
theorem oAddE_v {a : aS} {x y z : Int32} (v : vS a) : vS (oAddE a x y z).2 := by
  have hb := v.1.b
  unfold oAddE
  split
  · rename_i h
    split
    · rename_i h2
      split
      · rename_i h3
        obtain ⟨i, hi, rfl⟩ := aIn_x (by omega) h.1
        obtain ⟨j, hj, rfl⟩ := aIn_x (by omega) h.2
        obtain ⟨k, hk, rfl⟩ := aIn_x (by omega) h2
        refine sGr_v v (gAdd_v v.1 h3 ?_ ?_ ?_) <;> rw [nI_clamp (by omega)] <;> assumption
      · exact v
    · exact v
  · exact v
theorem oRemE_v {a : aS} {x : Int32} (v : vS a) : vS (oRemE a x).2 := by
  unfold oRemE
  split
  · exact sGr_v v (gDrop_v v.1)
  · exact v
theorem oEdge_v {f : aG → Nat → Nat} {a : aS} {x : Int32} (v : vS a) : vS (oEdge f a x).2 := by
  unfold oEdge
  split <;> exact v
theorem oSplit_v {a : aS} {x y : Int32} (v : vS a) : vS (oSplit a x y).2 := by
  unfold oSplit
  split
  · split
    · split
      · rename_i h
        exact sGr_v v (spG_v v.1 h.1 h.2)
      · exact v
    · exact v
  · exact v
theorem oAppC_v {a : aS} {x : Int32} (v : vS a) : vS (oAppC a x).2 := by
  unfold oAppC
  split
  · rename_i h
    split
    · rename_i h2
      obtain ⟨k, rfl, h1, hk, hk2⟩ := t_c (x := x) (m := 32) (n := 126) h
      refine sTx_v v (waT_v v.2.2.1 h2 ?_ ?_) <;> rw [nI_clamp hk2] <;> assumption
    · exact v
  · exact v
theorem vT_0 {f : Nat → Nat} : vT (0, f) := ⟨Nat.zero_le _, fun j hj => absurd hj (Nat.not_lt_zero _)⟩
theorem vW_0 {f : Nat → Nat} : vW (0, f) := ⟨Nat.zero_le _, fun j hj => absurd hj (Nat.not_lt_zero _)⟩
theorem oAppB_v {a : aS} {x : Int32} (v : vS a) : vS (oAppB a x).2 := by
  unfold oAppB
  split
  · rename_i h
    split
    · rename_i h2
      obtain ⟨k, hk, rfl⟩ := aIn_x (by omega) h
      refine sWd_v v (waB_v v.2.1 h2 ?_)
      rw [nI_clamp (by omega)]
      omega
    · exact v
  · exact v
theorem oClrW_v {a : aS} (v : vS a) : vS (oClrW a).2 := sWd_v v vW_0
theorem oBit_v {a : aS} {x : Int32} (v : vS a) : vS (oBit a x).2 := by
  unfold oBit
  split <;> exact v
theorem oBal_v {a : aS} (v : vS a) : vS (oBal a).2 := by
  unfold oBal
  split
  · exact v
  · exact sWd_v v (wInv_v v.2.1)
theorem oInv_v {a : aS} {x : Int32} (v : vS a) : vS (oInv a x).2 := by
  unfold oInv
  split
  · exact sWd_v v (wInv_v v.2.1)
  · exact v
theorem oEnSt_v {a : aS} (v : vS a) : vS (oEnSt a).2 := by
  unfold oEnSt
  split <;> exact v
theorem oIsEn_v {a : aS} {x : Int32} (v : vS a) : vS (oIsEn a x).2 := by
  unfold oIsEn
  split <;> exact v
theorem slPut_v {s : aL} {i : Nat} {q : aW} (v : vL s) (h : q.1 ≤ 20 ∧ ∀ j, j < q.1 → q.2 j ≤ 9999) : vL (slPut s i q) := by
  intro k hk x e
  unfold slPut at e
  by_cases c : k = i
  · rw [if_pos c] at e
    cases e
    exact h
  · rw [if_neg c] at e
    exact v k hk x e
theorem oNewA_v {a : aS} {x y : Int32} (v : vS a) : vS (oNewA a x y).2 := by
  unfold oNewA
  split
  · split
    · exact v
    · split
      · exact v
      · rename_i h1 h2
        obtain ⟨k, rfl, _, hk, hk2⟩ := t_c (x := y) (m := 0) (n := 20) ⟨by omega, by omega⟩
        refine sSl_v v (slPut_v v.2.2.2.2.1 ⟨?_, fun j _ => Nat.zero_le _⟩)
        rw [nI_clamp hk2]
        exact hk
  · exact v
theorem oPutA_v {a : aS} {x y z : Int32} (v : vS a) : vS (oPutA a x y z).2 := by
  unfold oPutA
  split
  · rename_i hx
    split
    · rename_i hz
      split
      · exact v
      · rename_i q e
        split
        · obtain ⟨i, hi, rfl⟩ := aIn_x (by omega) hx
          obtain ⟨k, hk, rfl⟩ := aIn_x (by omega) hz
          rw [nI_clamp (by omega)] at e
          have vq := v.2.2.2.2.1 i hi q e
          refine sSl_v v (slPut_v v.2.2.2.2.1 ⟨vq.1, fun j hj => ?_⟩)
          dsimp only
          rw [nI_clamp (show k < 2 ^ 31 by omega)]
          split
          · omega
          · exact vq.2 j hj
        · exact v
    · exact v
  · exact v
theorem oSave_v {a : aS} (v : vS a) : vS (oSave a).2 := sSn_v v
theorem oRest_v {a : aS} (v : vS a) : vS (oRest a).2 := by
  unfold oRest
  split
  · exact v
  · rename_i q e
    have vq := v.2.2.2.1 q e
    exact sGr_v (sWd_v v vq.2) vq.1
