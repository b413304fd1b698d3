/-! mathematics: a state split, and its new one, generate together what the state generated -/
def eTo (g : aG) (a l b : Nat) : Prop := ∃ e, e < gM g ∧ gS g e = a ∧ gL g e = l ∧ gE g e = b
theorem eTo_add {g : aG} {a l b a' l' b' : Nat} : eTo (gAdd g a' l' b') a l b ↔ eTo g a l b ∨ (a' = a ∧ l' = l ∧ b' = b) := by
  constructor
  · rintro ⟨e, h1, h2, h3, h4⟩
    have h1 : e < gM g + 1 := h1
    have h2 : (if e = gM g then a' else gS g e) = a := h2
    have h3 : (if e = gM g then l' else gL g e) = l := h3
    have h4 : (if e = gM g then b' else gE g e) = b := h4
    by_cases c : e = gM g
    · rw [if_pos c] at h2 h3 h4
      exact Or.inr ⟨h2, h3, h4⟩
    · rw [if_neg c] at h2 h3 h4
      exact Or.inl ⟨e, by omega, h2, h3, h4⟩
  · rintro (⟨e, h1, h2, h3, h4⟩ | ⟨h2, h3, h4⟩)
    · refine ⟨e, Nat.lt_succ_of_lt h1, ?_, ?_, ?_⟩
      · show (if e = gM g then a' else gS g e) = a
        rw [if_neg (by omega)]; exact h2
      · show (if e = gM g then l' else gL g e) = l
        rw [if_neg (by omega)]; exact h3
      · show (if e = gM g then b' else gE g e) = b
        rw [if_neg (by omega)]; exact h4
    · refine ⟨gM g, Nat.lt_succ_self _, ?_, ?_, ?_⟩
      · show (if gM g = gM g then a' else _) = a
        rw [if_pos rfl]; exact h2
      · show (if gM g = gM g then l' else _) = l
        rw [if_pos rfl]; exact h3
      · show (if gM g = gM g then b' else _) = b
        rw [if_pos rfl]; exact h4
theorem eTo_spC {g : aG} {s m a l b : Nat} : ∀ i, eTo (spC g s m i) a l b ↔ (∃ e, e < gM g ∧ spS g s m e = a ∧ gL g e = l ∧ gE g e = b) ∨ (b = gN g ∧ ∃ e, e < i ∧ gE g e = s ∧ spS g s m e = a ∧ gL g e = l)
  | 0 => ⟨fun h => Or.inl h, fun h => h.elim id fun ⟨_, e, h, _⟩ => absurd h (Nat.not_lt_zero _)⟩
  | i + 1 => by
    have ih := eTo_spC (g := g) (s := s) (m := m) (a := a) (l := l) (b := b) i
    by_cases c : gE g i = s
    · rw [show spC g s m (i + 1) = gAdd (spC g s m i) (spS g s m i) (gL g i) (gN g) from if_pos c, eTo_add, ih]
      constructor
      · rintro ((h | ⟨h, e, h1, h2⟩) | ⟨h1, h2, h3⟩)
        · exact Or.inl h
        · exact Or.inr ⟨h, e, by omega, h2⟩
        · exact Or.inr ⟨h3.symm, i, by omega, c, h1, h2⟩
      · rintro (h | ⟨h, e, h1, h2, h3, h4⟩)
        · exact Or.inl (Or.inl h)
        · by_cases q : e = i
          · subst q
            exact Or.inr ⟨h3, h4, h.symm⟩
          · exact Or.inl (Or.inr ⟨h, e, by omega, h2, h3, h4⟩)
    · rw [show spC g s m (i + 1) = spC g s m i from if_neg c, ih]
      constructor
      · rintro (h | ⟨h, e, h1, h2⟩)
        · exact Or.inl h
        · exact Or.inr ⟨h, e, by omega, h2⟩
      · rintro (h | ⟨h, e, h1, h2, h3⟩)
        · exact Or.inl h
        · by_cases q : e = i
          · subst q
            exact absurd h2 c
          · exact Or.inr ⟨h, e, by omega, h2, h3⟩
theorem suc_bit {g : aG} {A l j : Nat} : (sucM g A l (gM g)).testBit j = true ↔ ∃ a, A.testBit a = true ∧ eTo g a l j := by
  unfold sucM
  rw [fO_bit]
  constructor
  · rintro ⟨e, h1, h2, h3⟩
    rw [Bool.and_eq_true, beq_iff_eq] at h2
    exact ⟨gS g e, h2.1, e, h1, rfl, h2.2, h3⟩
  · rintro ⟨a, h1, e, h2, h3, h4, h5⟩
    refine ⟨e, h2, ?_, h5⟩
    rw [Bool.and_eq_true, beq_iff_eq, h3]
    exact ⟨h1, h4⟩
theorem suc_or {g : aG} {A B l : Nat} : sucM g (A ||| B) l (gM g) = sucM g A l (gM g) ||| sucM g B l (gM g) := by
  refine Nat.eq_of_testBit_eq fun j => ?_
  rw [Bool.eq_iff_iff, Nat.testBit_or, Bool.or_eq_true, suc_bit, suc_bit, suc_bit]
  constructor
  · rintro ⟨a, h1, h2⟩
    rw [Nat.testBit_or, Bool.or_eq_true] at h1
    rcases h1 with h | h
    · exact Or.inl ⟨a, h, h2⟩
    · exact Or.inr ⟨a, h, h2⟩
  · rintro (⟨a, h1, h2⟩ | ⟨a, h1, h2⟩)
    · exact ⟨a, by rw [Nat.testBit_or, h1, Bool.true_or], h2⟩
    · exact ⟨a, by rw [Nat.testBit_or, h1, Bool.or_true], h2⟩
theorem suc_0 {g : aG} {l : Nat} : sucM g 0 l (gM g) = 0 := by
  refine Nat.eq_of_testBit_eq fun j => ?_
  rw [Bool.eq_iff_iff, suc_bit]
  constructor
  · rintro ⟨a, h1, _⟩
    rw [Nat.zero_testBit] at h1
    cases h1
  · intro h
    rw [Nat.zero_testBit] at h
    cases h
/-- a set of states, with the new one where the split one is -/
def lfS (s N A : Nat) : Nat := A ||| if A.testBit s then 2 ^ N else 0
theorem lfS_bit {s N A j : Nat} : (lfS s N A).testBit j = true ↔ A.testBit j = true ∨ (j = N ∧ A.testBit s = true) := by
  unfold lfS
  rw [Nat.testBit_or, Bool.or_eq_true]
  cases c : A.testBit s
  · rw [if_neg (by decide), Nat.zero_testBit]
    exact ⟨fun h => h.elim Or.inl (fun h => by cases h), fun h => h.elim Or.inl (fun h => by cases h.2)⟩
  · rw [if_pos rfl, Nat.testBit_two_pow, decide_eq_true_eq]
    exact ⟨fun h => h.elim Or.inl fun h => Or.inr ⟨h.symm, rfl⟩, fun h => h.elim Or.inl fun h => Or.inr h.1.symm⟩
theorem lfS_0 {s N A : Nat} : lfS s N A = 0 ↔ A = 0 := by
  constructor
  · intro h
    refine Nat.eq_of_testBit_eq fun j => ?_
    rw [Nat.zero_testBit]
    cases c : A.testBit j
    · rfl
    · have := (lfS_bit (s := s) (N := N)).mpr (Or.inl c)
      rw [h, Nat.zero_testBit] at this
      cases this
  · intro h
    subst h
    unfold lfS
    rw [Nat.zero_testBit, if_neg (by decide)]
    rfl
theorem spS_c (g : aG) (s m e : Nat) : (gS g e ≠ s ∧ spS g s m e = gS g e) ∨ (gS g e = s ∧ (spS g s m e = s ∨ spS g s m e = gN g)) := by
  unfold spS
  by_cases c : gS g e = s
  · refine Or.inr ⟨c, ?_⟩
    split
    · exact Or.inr rfl
    · exact Or.inl c
  · exact Or.inl ⟨c, if_neg fun q => c q.1⟩
/-- one step in the split graph, from a set that holds both or none -/
theorem sp_suc {g : aG} {s m : Nat} (v : vG g) (hs : s < gN g) {A l : Nat} (hA : A < 2 ^ gN g) : sucM (spG g s m) (lfS s (gN g) A) l (gM (spG g s m)) = lfS s (gN g) (sucM g A l (gM g)) := by
  have hin : ∀ e, e < gM g → ((lfS s (gN g) A).testBit (spS g s m e) = true ↔ A.testBit (gS g e) = true) := by
    intro e he
    have hv := (v.e he).1
    have hN : ∀ j, A.testBit j = true → j < gN g := fun j hj => by
      rcases Nat.lt_or_ge j (gN g) with q | q
      · exact q
      · rw [Nat.testBit_lt_two_pow (Nat.lt_of_lt_of_le hA (Nat.pow_le_pow_right (by omega) q))] at hj
        cases hj
    rw [lfS_bit]
    rcases spS_c g s m e with ⟨h1, h2⟩ | ⟨h1, h2 | h2⟩
    · rw [h2]
      constructor
      · rintro (q | ⟨q, _⟩)
        · exact q
        · omega
      · exact Or.inl
    · rw [h2, h1]
      constructor
      · rintro (q | ⟨_, q⟩) <;> exact q
      · exact Or.inl
    · rw [h2, h1]
      constructor
      · rintro (q | ⟨_, q⟩)
        · exact absurd (hN _ q) (Nat.lt_irrefl _)
        · exact q
      · exact fun q => Or.inr ⟨rfl, q⟩
  refine Nat.eq_of_testBit_eq fun j => ?_
  rw [Bool.eq_iff_iff, suc_bit, lfS_bit, suc_bit, suc_bit]
  constructor
  · rintro ⟨a, h1, h2⟩
    rcases (eTo_spC (gM g)).mp h2 with ⟨e, q1, q2, q3, q4⟩ | ⟨q0, e, q1, q2, q3, q4⟩
    · exact Or.inl ⟨gS g e, (hin e q1).mp (by rw [q2]; exact h1), e, q1, rfl, q3, q4⟩
    · exact Or.inr ⟨q0, gS g e, (hin e q1).mp (by rw [q3]; exact h1), e, q1, rfl, q4, q2⟩
  · rintro (⟨a, h1, e, q1, q2, q3, q4⟩ | ⟨q0, a, h1, e, q1, q2, q3, q4⟩)
    · exact ⟨spS g s m e, (hin e q1).mpr (by rw [q2]; exact h1), (eTo_spC (gM g)).mpr (Or.inl ⟨e, q1, rfl, q3, q4⟩)⟩
    · exact ⟨spS g s m e, (hin e q1).mpr (by rw [q2]; exact h1), (eTo_spC (gM g)).mpr (Or.inr ⟨q0, e, q1, q4, rfl, q3⟩)⟩
theorem fvS_N {g : aG} {s : Nat} (v : vG g) (hs : s < gN g) {x : aW} {t : Nat} (ht : t < gN g) : ∀ k, fvS g x t k < 2 ^ gN g
  | 0 => z_p2 ht
  | k + 1 => fO_lt fun e he => (v.e he).2.2
theorem spG_B {g : aG} {s m : Nat} (v : vG g) (hs : s < gN g) : gB (spG g s m) = gB g ∧ gN (spG g s m) = gN g + 1 := by
  have : ∀ i, gB (spC g s m i) = gB g ∧ gN (spC g s m i) = gN g + 1 := by
    intro i
    induction i with
    | zero => exact ⟨rfl, rfl⟩
    | succ i ih =>
      show gB (if gE g i = s then _ else _) = _ ∧ gN (if gE g i = s then _ else _) = _
      split <;> exact ih
  exact this (gM g)
theorem sp_fvS {g : aG} {s m : Nat} (v : vG g) (hs : s < gN g) {x : aW} {t : Nat} (ht : t < gN g) (hne : t ≠ s) : ∀ k, fvS (spG g s m) x t k = lfS s (gN g) (fvS g x t k)
  | 0 => by
    show 2 ^ t = lfS s (gN g) (2 ^ t)
    unfold lfS
    rw [Nat.testBit_two_pow, decide_eq_false hne, if_neg (by decide), Nat.or_zero]
  | k + 1 => by
    have hB := (spG_B (m := m) v hs).1
    show sucM (spG g s m) (fvS (spG g s m) x t k) (la x (gB (spG g s m)) k) (gM (spG g s m)) = _
    rw [sp_fvS v hs ht hne k, hB, sp_suc v hs (fvS_N v hs ht k)]
    rfl
theorem sp_fvU {g : aG} {s m : Nat} (v : vG g) (hs : s < gN g) {x : aW} : ∀ k, fvS (spG g s m) x s k ||| fvS (spG g s m) x (gN g) k = lfS s (gN g) (fvS g x s k)
  | 0 => by
    show 2 ^ s ||| 2 ^ gN g = lfS s (gN g) (2 ^ s)
    unfold lfS
    rw [Nat.testBit_two_pow, decide_eq_true rfl, if_pos rfl]
  | k + 1 => by
    have hB := (spG_B (m := m) v hs).1
    show sucM (spG g s m) (fvS (spG g s m) x s k) (la x (gB (spG g s m)) k) (gM (spG g s m)) ||| sucM (spG g s m) (fvS (spG g s m) x (gN g) k) (la x (gB (spG g s m)) k) (gM (spG g s m)) = _
    rw [← suc_or, sp_fvU v hs k, hB, sp_suc v hs (fvS_N v hs hs k)]
    rfl
/-- OTHER STATES GENERATE WHAT THEY DID -/
theorem sp_oth {g : aG} {s m : Nat} (v : vG g) (hs : s < gN g) {x : aW} {t : Nat} (ht : t < gN g) (hne : t ≠ s) : fvA (spG g s m) x t = fvA g x t := by
  have hB := (spG_B (m := m) v hs).1
  unfold fvA
  rw [hB, show (fun k => fvS (spG g s m) x t (k + 1) == 0) = fun k => fvS g x t (k + 1) == 0 from funext fun k => by
    rw [sp_fvS v hs ht hne, Bool.eq_iff_iff, beq_iff_eq, beq_iff_eq]
    exact lfS_0]
theorem fvS_z {g : aG} {x : aW} {t k : Nat} (h : fvS g x t k = 0) : ∀ d, fvS g x t (k + d) = 0
  | 0 => h
  | d + 1 => by
    show sucM g (fvS g x t (k + d)) _ (gM g) = 0
    rw [fvS_z h d, suc_0]
def fvX : Option Nat → Option Nat → Option Nat
  | some a, some b => some (max a b)
  | _, _ => none
/-- THE SPLIT STATE AND ITS NEW ONE GENERATE TOGETHER WHAT IT DID -/
theorem sp_two {g : aG} {s m : Nat} (v : vG g) (hs : s < gN g) {x : aW} : fvX (fvA (spG g s m) x s) (fvA (spG g s m) x (gN g)) = fvA g x s := by
  have hB := (spG_B (m := m) v hs).1
  have hz : ∀ k, fvS g x s k = 0 ↔ fvS (spG g s m) x s k = 0 ∧ fvS (spG g s m) x (gN g) k = 0 := fun k => by
    rw [← lfS_0 (s := s) (N := gN g), ← sp_fvU (m := m) v hs k, Nat.or_eq_zero_iff]
  unfold fvA
  rw [hB]
  generalize x.1 / gB g = K
  rcases ff_c (fun k => fvS g x s (k + 1) == 0) K with ⟨i, a1, a2, a3, a4⟩ | ⟨a1, a2⟩
  · rw [a1]
    have a3 := (hz _).mp (beq_iff_eq.mp a3)
    rcases ff_c (fun k => fvS (spG g s m) x s (k + 1) == 0) K with ⟨i1, b1, b2, b3, b4⟩ | ⟨b1, b2⟩
    · rcases ff_c (fun k => fvS (spG g s m) x (gN g) (k + 1) == 0) K with ⟨i2, c1, c2, c3, c4⟩ | ⟨c1, c2⟩
      · rw [b1, c1]
        show some (max i1 i2) = some i
        have h1 : i1 ≤ i := Nat.not_lt.mp fun q => by
          have := b4 i q
          rw [a3.1] at this
          cases this
        have h2 : i2 ≤ i := Nat.not_lt.mp fun q => by
          have := c4 i q
          rw [a3.2] at this
          cases this
        have h3 : i ≤ max i1 i2 := Nat.not_lt.mp fun q => by
          have q1 := fvS_z (beq_iff_eq.mp b3) (max i1 i2 - i1)
          have q2 := fvS_z (beq_iff_eq.mp c3) (max i1 i2 - i2)
          rw [show i1 + 1 + (max i1 i2 - i1) = max i1 i2 + 1 by omega] at q1
          rw [show i2 + 1 + (max i1 i2 - i2) = max i1 i2 + 1 by omega] at q2
          have := a4 _ q
          rw [(hz _).mpr ⟨q1, q2⟩] at this
          cases this
        congr 1
        omega
      · have := c2 i a2
        rw [a3.2] at this
        cases this
    · have := b2 i a2
      rw [a3.1] at this
      cases this
  · rw [a1]
    rcases ff_c (fun k => fvS (spG g s m) x s (k + 1) == 0) K with ⟨i1, b1, b2, b3, b4⟩ | ⟨b1, b2⟩
    · rcases ff_c (fun k => fvS (spG g s m) x (gN g) (k + 1) == 0) K with ⟨i2, c1, c2, c3, c4⟩ | ⟨c1, c2⟩
      · exfalso
        have q1 := fvS_z (beq_iff_eq.mp b3) (max i1 i2 - i1)
        have q2 := fvS_z (beq_iff_eq.mp c3) (max i1 i2 - i2)
        rw [show i1 + 1 + (max i1 i2 - i1) = max i1 i2 + 1 by omega] at q1
        rw [show i2 + 1 + (max i1 i2 - i2) = max i1 i2 + 1 by omega] at q2
        have := a2 (max i1 i2) (by omega)
        rw [(hz _).mpr ⟨q1, q2⟩] at this
        cases this
      · rw [b1, c1]
        dsimp only
        split
        · show some (max i1 K) = some K
          congr 1
          omega
        · rfl
    · rcases ff_c (fun k => fvS (spG g s m) x (gN g) (k + 1) == 0) K with ⟨i2, c1, c2, c3, c4⟩ | ⟨c1, c2⟩
      · rw [b1, c1]
        dsimp only
        split
        · show some (max K i2) = some K
          congr 1
          omega
        · rfl
      · rw [b1, c1]
        dsimp only
        split
        · show some (max K K) = some K
          rw [Nat.max_self]
        · rfl
