/-! the model: the power of a graph -/
theorem z_lle {a b : Nat} (ha : a < 2 ^ 63) (hb : b < 2 ^ 63) : (lN a ≤ lN b) = (a ≤ b) := propext (pk_lLE ha hb)
theorem z_llt {a b : Nat} (ha : a < 2 ^ 63) (hb : b < 2 ^ 63) : (lN a < lN b) = (a < b) := propext (pk_lLT ha hb)
theorem z_cle {x y : Int64} : (lg_cmp x y ≤ 0) = (x ≤ y) := propext (lg_cmp_le x y)
theorem z_clt {x y : Int64} : (lg_cmp x y < 0) = (x < y) := propext (lg_cmp_lt x y)
theorem z_cgt {x y : Int64} : (0 < lg_cmp x y) = (y < x) := propext (lg_cmp_gt x y)
theorem z_cge {x y : Int64} : (0 ≤ lg_cmp x y) = (y ≤ x) := propext (lg_cmp_ge x y)
/-- the ways counted, the graph as it was -/
def rPw (g : aG) (q : Nat) (w : mx_Wd) : Prop := mx_F w 0 28 = nI (gM g) ∧ mx_F w 0 29 = nI (gB g) ∧ (∀ e, e < gM g → mx_A w 13 e = nI (gS g e)) ∧ (∀ e, e < gM g → mx_A w 14 e = nI (gL g e)) ∧ (∀ e, e < gM g → mx_A w 15 e = nI (gE g e)) ∧ ∀ t s, t ≤ q → s < gN g → mx_L w 12 (16 * t + s) = lN (pc g t s)
def kPw (w w' : mx_Wd) : Prop := kq [1] [1, 2, 3] w w' ∧ mx_L w' 12 = mx_L w 12
theorem kPw.refl {w : mx_Wd} : kPw w w := ⟨kq.refl, rfl⟩
theorem kPw.trans {w w1 w2 : mx_Wd} (h : kPw w w1) (h' : kPw w1 w2) : kPw w w2 := ⟨h.1.trans h'.1, h'.2.trans h.2⟩
theorem rPw.kept {g : aG} {q : Nat} {w w' : mx_Wd} (h : rPw g q w) (k : kPw w w') : rPw g q w' := by
  obtain ⟨h1, h2, h3, h4, h5, h6⟩ := h
  refine ⟨(k.1.1 28 (by decide)).trans h1, (k.1.1 29 (by decide)).trans h2, ?_, ?_, ?_, ?_⟩
  · rw [k.1.2 13 (by decide)]; exact h3
  · rw [k.1.2 14 (by decide)]; exact h4
  · rw [k.1.2 15 (by decide)]; exact h5
  · rw [k.2]; exact h6
section MPw
variable {d : Nat} {w : mx_Wd} {g : aG} {a : aS}
theorem fl_nx {g : aG} {t : Nat} {i : aI} {e : Nat} : (nxP g t i (e + 1)).flatMap (wk g t) = if nxC g t i e then (nxP g t i e).flatMap (wk g t) ++ wk g t (nxI g i e) else (nxP g t i e).flatMap (wk g t) := by
  rw [nxP_s]
  split
  · rw [List.flatMap_append, List.flatMap_cons, List.flatMap_nil, List.append_nil]
  · rfl
end MPw
