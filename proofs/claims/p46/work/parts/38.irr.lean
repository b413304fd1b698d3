/-! every state from every state: ways through the states below k; rounds -/
def rW0 (g : aG) (n s j : Nat) : Prop := s = j ∨ ∃ e, e < n ∧ gS g e = s ∧ gE g e = j
def rWk (g : aG) : Nat → Nat → Nat → Prop
  | 0, s, j => rW0 g (gM g) s j
  | k + 1, s, j => rWk g k s j ∨ (rWk g k s k ∧ rWk g k k j)
theorem rWk_up {g : aG} {s j : Nat} (h : rW0 g (gM g) s j) : ∀ k, rWk g k s j
  | 0 => h
  | k + 1 => Or.inl (rWk_up h k)
theorem rWk_tr {g : aG} : ∀ {k s m j : Nat}, m < k → rWk g k s m → rWk g k m j → rWk g k s j
  | 0, _, _, _, h, _, _ => absurd h (Nat.not_lt_zero _)
  | k + 1, s, m, j, h, a, b => by
    rcases Nat.lt_or_ge m k with c | c
    · rcases a with a | ⟨a1, a2⟩
      · rcases b with b | ⟨b1, b2⟩
        · exact Or.inl (rWk_tr c a b)
        · exact Or.inr ⟨rWk_tr c a b1, b2⟩
      · rcases b with b | ⟨b1, b2⟩
        · exact Or.inr ⟨a1, rWk_tr c a2 b⟩
        · exact Or.inr ⟨a1, b2⟩
    · obtain rfl : m = k := by omega
      have a : rWk g m s m := by
        rcases a with a | ⟨a1, _⟩
        · exact a
        · exact a1
      have b : rWk g m m j := by
        rcases b with b | ⟨_, b2⟩
        · exact b
        · exact b2
      exact Or.inr ⟨a, b⟩
def irr (g : aG) : Prop := 0 < gN g ∧ ∀ s j, s < gN g → j < gN g → rWk g (gN g) s j
noncomputable def irrB (g : aG) : Bool := pB (irr g)
def isWm (g : aG) (k v m : Nat) : Prop := ∀ j, m.testBit j = true ↔ (j < gN g ∧ rWk g k v j)
theorem isWm_lt {g : aG} {n : Nat} {P : Nat → Prop} {m : Nat} (h : ∀ j, m.testBit j = true ↔ (j < n ∧ P j)) : m < 2 ^ n := Nat.lt_pow_two_of_testBit _ fun j hj => by
  cases c : m.testBit j
  · rfl
  · have := ((h j).mp c).1
    omega
theorem isWm_all {n : Nat} {P : Nat → Prop} {m : Nat} (h : ∀ j, m.testBit j = true ↔ (j < n ∧ P j)) : m = 2 ^ n - 1 ↔ ∀ j, j < n → P j := by
  constructor
  · intro e j hj
    refine ((h j).mp ?_).2
    rw [e, Nat.testBit_two_pow_sub_one, decide_eq_true hj]
  · intro q
    refine Nat.eq_of_testBit_eq fun j => ?_
    rw [Nat.testBit_two_pow_sub_one]
    by_cases c : j < n
    · rw [decide_eq_true c]
      exact (h j).mpr ⟨c, q j c⟩
    · rw [decide_eq_false c]
      cases d : m.testBit j
      · rfl
      · exact absurd ((h j).mp d).1 c
/-- one round over the edges -/
def rdE (g : aG) (m : Nat) : Nat → Nat
  | 0 => m
  | e + 1 => if (rdE g m e).testBit (gS g e) then rdE g m e ||| 2 ^ gE g e else rdE g m e
def rdN (g : aG) (s : Nat) : Nat → Nat
  | 0 => 2 ^ s
  | i + 1 => rdE g (rdN g s i) (gM g)
theorem rdE_s (g : aG) (m e : Nat) : rdE g m (e + 1) = if (rdE g m e).testBit (gS g e) then rdE g m e ||| 2 ^ gE g e else rdE g m e := rfl
theorem rdE_up {g : aG} {m j : Nat} : ∀ {e e' : Nat}, e ≤ e' → (rdE g m e).testBit j = true → (rdE g m e').testBit j = true
  | e, 0, h, q => by
    obtain rfl : e = 0 := by omega
    exact q
  | e, e' + 1, h, q => by
    rcases Nat.lt_or_ge e (e' + 1) with c | c
    · have := rdE_up (e := e) (e' := e') (by omega) q
      rw [rdE_s]
      split
      · rw [Nat.testBit_or, this, Bool.true_or]
      · exact this
    · obtain rfl : e = e' + 1 := by omega
      exact q
theorem rdE_in {g : aG} (v : vG g) {P : Nat → Prop} (hP : ∀ e, e < gM g → P (gS g e) → P (gE g e)) {m : Nat} (h : ∀ j, m.testBit j = true → j < gN g ∧ P j) : ∀ {e : Nat}, e ≤ gM g → ∀ j, (rdE g m e).testBit j = true → j < gN g ∧ P j
  | 0, _, j, q => h j q
  | e + 1, he, j, q => by
    have ih := rdE_in v hP h (e := e) (by omega)
    rw [rdE_s] at q
    split at q
    · rename_i c
      rw [Nat.testBit_or, Bool.or_eq_true, Nat.testBit_two_pow, decide_eq_true_eq] at q
      rcases q with q | q
      · exact ih j q
      · subst q
        exact ⟨(v.e he).2.2, hP e he (ih _ c).2⟩
    · exact ih j q
theorem rdE_closed {g : aG} {m : Nat} (h : rdE g m (gM g) = m) : ∀ e, e < gM g → m.testBit (gS g e) = true → m.testBit (gE g e) = true := by
  intro e he q
  have h1 : (rdE g m e).testBit (gS g e) = true := rdE_up (e := 0) (Nat.zero_le _) q
  have h2 : (rdE g m (e + 1)).testBit (gE g e) = true := by
    rw [rdE_s, if_pos h1, Nat.testBit_or, Nat.testBit_two_pow, decide_eq_true rfl, Bool.or_true]
  have h3 := rdE_up (e := e + 1) (e' := gM g) he h2
  rwa [h] at h3
theorem rdE_fix {g : aG} {m : Nat} (h : ∀ e, e < gM g → m.testBit (gS g e) = true → m.testBit (gE g e) = true) : ∀ {e : Nat}, e ≤ gM g → rdE g m e = m
  | 0, _ => rfl
  | e + 1, he => by
    have ih := rdE_fix h (e := e) (by omega)
    rw [rdE_s, ih]
    split
    · rename_i c
      refine Nat.eq_of_testBit_eq fun j => ?_
      rw [Nat.testBit_or, Nat.testBit_two_pow]
      by_cases q : gE g e = j
      · subst q
        rw [h e he c, Bool.true_or]
      · rw [decide_eq_false q, Bool.or_false]
    · rfl
theorem rdN_in {g : aG} (v : vG g) {s : Nat} (hs : s < gN g) : ∀ i j, (rdN g s i).testBit j = true → j < gN g ∧ rWk g (gN g) s j
  | 0, j, q => by
    have q : (2 ^ s).testBit j = true := q
    rw [Nat.testBit_two_pow, decide_eq_true_eq] at q
    subst q
    exact ⟨hs, rWk_up (Or.inl rfl) _⟩
  | i + 1, j, q => rdE_in v (P := rWk g (gN g) s) (fun e he h => rWk_tr (v.e he).1 h (rWk_up (Or.inr ⟨e, he, rfl, rfl⟩) _)) (rdN_in v hs i) (Nat.le_refl _) j q
theorem ct_lt {n m m' : Nat} (h : ∀ j, m.testBit j = true → m'.testBit j = true) (hm : m' < 2 ^ n) (hn : m' ≠ m) : fb_ct m.testBit n < fb_ct m'.testBit n := by
  have hml : ∀ j, n ≤ j → m'.testBit j = false := fun j hj => Nat.testBit_lt_two_pow (Nat.lt_of_lt_of_le hm (Nat.pow_le_pow_right (by omega) hj))
  obtain ⟨j, hj⟩ : ∃ j, m'.testBit j ≠ m.testBit j := Classical.byContradiction fun q => hn (Nat.eq_of_testBit_eq fun j => Classical.byContradiction fun q2 => q ⟨j, q2⟩)
  have h1 : m'.testBit j = true := by
    cases c : m'.testBit j
    · rw [c] at hj
      cases d : m.testBit j
      · exact absurd d.symm hj
      · rw [h j d] at c; cases c
    · rfl
  have h2 : m.testBit j = false := by
    cases c : m.testBit j
    · rfl
    · rw [h1, c] at hj; exact absurd rfl hj
  have hjn : j < n := by
    rcases Nat.lt_or_ge j n with c | c
    · exact c
    · rw [hml j c] at h1; cases h1
  have h3 := fb_ct_upd m.testBit true hjn
  rw [h2, if_pos rfl] at h3
  have h4 : fb_ct (fun k => if k = j then true else m.testBit k) n ≤ fb_ct m'.testBit n := fb_ct_sub fun k _ q => by
    by_cases c : k = j
    · subst c; exact h1
    · rw [if_neg c] at q
      exact h k q
  simp only [Bool.false_eq_true, if_false, Nat.add_zero] at h3
  omega
theorem rdN_closed {g : aG} (v : vG g) {s : Nat} (hs : s < gN g) : ∀ i, (∀ e, e < gM g → (rdN g s i).testBit (gS g e) = true → (rdN g s i).testBit (gE g e) = true) ∨ i + 1 ≤ fb_ct (rdN g s i).testBit (gN g)
  | 0 => by
    refine Or.inr ?_
    have : 0 < fb_ct (rdN g s 0).testBit (gN g) := fb_ct_pos.mpr ⟨s, hs, by show (2 ^ s).testBit s = true; rw [Nat.testBit_two_pow, decide_eq_true rfl]⟩
    omega
  | i + 1 => by
    by_cases c : rdE g (rdN g s i) (gM g) = rdN g s i
    · refine Or.inl ?_
      have := rdE_closed c
      rw [show rdN g s (i + 1) = rdN g s i from c]
      exact this
    · rcases rdN_closed v hs i with h | h
      · exact absurd (rdE_fix h (Nat.le_refl _)) c
      · have := ct_lt (n := gN g) (m := rdN g s i) (m' := rdN g s (i + 1)) (fun j q => rdE_up (e := 0) (Nat.zero_le _) q) (isWm_lt (g := g) (P := fun j => (rdN g s (i + 1)).testBit j = true) fun j => ⟨fun q => ⟨(rdN_in v hs (i + 1) j q).1, q⟩, fun q => q.2⟩) c
        exact Or.inr (by omega)
theorem rdN_end {g : aG} (v : vG g) {s : Nat} (hs : s < gN g) : ∀ j, (rdN g s (gN g)).testBit j = true ↔ (j < gN g ∧ rWk g (gN g) s j) := by
  have hc : ∀ e, e < gM g → (rdN g s (gN g)).testBit (gS g e) = true → (rdN g s (gN g)).testBit (gE g e) = true := by
    rcases rdN_closed v hs (gN g) with h | h
    · exact h
    · have := fb_ct_le (rdN g s (gN g)).testBit (gN g)
      omega
  have hw : ∀ k u j, rWk g k u j → (rdN g s (gN g)).testBit u = true → (rdN g s (gN g)).testBit j = true := by
    intro k
    induction k with
    | zero =>
      intro u j h q
      rcases h with rfl | ⟨e, he, rfl, rfl⟩
      · exact q
      · exact hc e he q
    | succ k ih =>
      intro u j h q
      rcases h with h | ⟨h1, h2⟩
      · exact ih u j h q
      · exact ih k j h2 (ih u k h1 q)
  have h0 : ∀ i, (rdN g s i).testBit s = true := by
    intro i
    induction i with
    | zero => show (2 ^ s).testBit s = true; rw [Nat.testBit_two_pow, decide_eq_true rfl]
    | succ i ih => exact rdE_up (e := 0) (Nat.zero_le _) ih
  exact fun j => ⟨rdN_in v hs _ j, fun q => hw _ _ _ q.2 (h0 _)⟩
section IRR
variable {d : Nat} {Q : mx_Po} {w : mx_Wd} {g : aG} {a : aS}
end IRR
