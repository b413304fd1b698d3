/-! the model: anticipation -/
abbrev kA (w w' : mx_Wd) : Prop := kq [] [21, 22] w w'
theorem z01_n {b : Bool} : (b = false ∨ b = true) = True := eq_true (by cases b <;> decide)
/-- pairs of states that pairs of edges with one label lead to -/
noncomputable def prB (g : aG) (P : Nat → Nat → Prop) (e f : Nat) (q : Nat) : Bool := pB (∃ e' f', (e' < e ∨ (e' = e ∧ f' < f)) ∧ f' < gM g ∧ P e' f' ∧ gL g e' = gL g f' ∧ 16 * gE g e' + gE g f' = q)
noncomputable def anB (g : aG) (P : Nat → Nat → Prop) (e f : Nat) : Bool := pB (∃ e' f', (e' < e ∨ (e' = e ∧ f' < f)) ∧ f' < gM g ∧ P e' f' ∧ gL g e' = gL g f')
section MAn
variable {d : Nat} {Q : mx_Po} {w : mx_Wd} {g : aG} {a : aS}
theorem pr_s {P : Nat → Nat → Prop} {e f : Nat} (hf : f < gM g) (c : P e f ∧ gL g e = gL g f) : anB g P e (f + 1) = true ∧ ∀ q, prB g P e (f + 1) q = if q = 16 * gE g e + gE g f then true else prB g P e f q := by
  refine ⟨pB_t ⟨e, f, by omega, hf, c⟩, fun q => ?_⟩
  by_cases h : q = 16 * gE g e + gE g f
  · rw [if_pos h]
    exact pB_t ⟨e, f, by omega, hf, c.1, c.2, h.symm⟩
  · rw [if_neg h]
    unfold prB
    congr 1
    refine propext ⟨fun ⟨e', f', h1, h2, h3, h4, h5⟩ => ⟨e', f', ?_, h2, h3, h4, h5⟩, fun ⟨e', f', h1, h2, h3⟩ => ⟨e', f', by omega, h2, h3⟩⟩
    by_cases h6 : e' = e ∧ f' = f
    · obtain ⟨rfl, rfl⟩ := h6
      exact absurd h5.symm h
    · omega
theorem pr_n {P : Nat → Nat → Prop} {e f : Nat} (c : ¬ (P e f ∧ gL g e = gL g f)) : anB g P e (f + 1) = anB g P e f ∧ ∀ q, prB g P e (f + 1) q = prB g P e f q := by
  constructor
  · unfold anB
    congr 1
    refine propext ⟨fun ⟨e', f', h1, h2, h3⟩ => ⟨e', f', ?_, h2, h3⟩, fun ⟨e', f', h1, h2, h3⟩ => ⟨e', f', by omega, h2, h3⟩⟩
    by_cases h6 : e' = e ∧ f' = f
    · obtain ⟨rfl, rfl⟩ := h6
      exact absurd h3 c
    · omega
  · intro q
    unfold prB
    congr 1
    refine propext ⟨fun ⟨e', f', h1, h2, h3, h4, h5⟩ => ⟨e', f', ?_, h2, h3, h4, h5⟩, fun ⟨e', f', h1, h2, h3⟩ => ⟨e', f', by omega, h2, h3⟩⟩
    by_cases h6 : e' = e ∧ f' = f
    · obtain ⟨rfl, rfl⟩ := h6
      exact absurd ⟨h3, h4⟩ c
    · omega
theorem pr_l {P : Nat → Nat → Prop} {e : Nat} : anB g P e (gM g) = anB g P (e + 1) 0 ∧ ∀ q, prB g P e (gM g) q = prB g P (e + 1) 0 q := by
  constructor
  · unfold anB
    congr 1
    exact propext ⟨fun ⟨e', f', h1, h2, h3⟩ => ⟨e', f', by omega, h2, h3⟩, fun ⟨e', f', h1, h2, h3⟩ => ⟨e', f', by omega, h2, h3⟩⟩
  · intro q
    unfold prB
    congr 1
    exact propext ⟨fun ⟨e', f', h1, h2, h3⟩ => ⟨e', f', by omega, h2, h3⟩, fun ⟨e', f', h1, h2, h3⟩ => ⟨e', f', by omega, h2, h3⟩⟩
/-- the pairs before step k -/
def prP (g : aG) : Nat → Nat → Nat → Prop
  | 0, e, f => e ≠ f ∧ gS g e = gS g f
  | k + 1, e, f => tgD g k (gS g e) (gS g f)
theorem an_D {k : Nat} : anB g (prP g k) (gM g) 0 = pB (tgO g k) := by
  unfold anB
  congr 1
  refine propext (Iff.trans ?_ tgO_D.symm)
  constructor
  · rintro ⟨e, f, h1, h2, h3, h4⟩
    cases k with
    | zero => exact ⟨_, _, e, f, by omega, h2, h3, h4, rfl, rfl⟩
    | succ k => exact ⟨_, _, e, f, by omega, h2, h3, h4, rfl, rfl⟩
  · rintro ⟨s, t, h⟩
    cases k with
    | zero =>
      obtain ⟨e, f, h1, h2, h3, h4, _⟩ := h
      exact ⟨e, f, by omega, h2, h3, h4⟩
    | succ k =>
      obtain ⟨e, f, h1, h2, h3, h4, _⟩ := h
      exact ⟨e, f, by omega, h2, h3, h4⟩
theorem pr_D (v : vG g) {k e f : Nat} (he : e < gM g) (hf : f < gM g) : prB g (prP g k) (gM g) 0 (16 * gS g e + gS g f) = pB (prP g (k + 1) e f) := by
  have hb := v.b
  have hve := v.e he
  have hvf := v.e hf
  unfold prB
  congr 1
  refine propext ?_
  constructor
  · rintro ⟨e', f', h1, h2, h3, h4, h5⟩
    have hv1 := v.e (show e' < gM g by omega)
    have hv2 := v.e h2
    have h6 : gE g e' = gS g e ∧ gE g f' = gS g f := by omega
    show tgD g k (gS g e) (gS g f)
    cases k with
    | zero => exact ⟨e', f', by omega, h2, h3, h4, h6.1, h6.2⟩
    | succ k => exact ⟨e', f', by omega, h2, h3, h4, h6.1, h6.2⟩
  · intro h
    have h : tgD g k (gS g e) (gS g f) := h
    cases k with
    | zero =>
      obtain ⟨e', f', h1, h2, h3, h4, h5, h6⟩ := h
      exact ⟨e', f', by omega, h2, h3, h4, by rw [h5, h6]⟩
    | succ k =>
      obtain ⟨e', f', h1, h2, h3, h4, h5, h6⟩ := h
      exact ⟨e', f', by omega, h2, h3, h4, by rw [h5, h6]⟩
end MAn
