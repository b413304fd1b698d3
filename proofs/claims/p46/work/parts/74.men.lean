/-! mathematics: what is encoded is generated from the start, and decoded as soon as the anticipation allows -/
theorem tgT_m {g : aG} : ∀ {k s t : Nat}, tgT g (k + 1) s t → tgT g k s t
  | 0, _, _, _ => trivial
  | k + 1, _, _, ⟨e, f, h1, h2, h3, h4, h5, h6⟩ => ⟨e, f, h1, h2, h3, h4, h5, tgT_m h6⟩
theorem tgT_d {g : aG} {k s t : Nat} : ∀ {d}, tgT g (k + d) s t → tgT g k s t
  | 0, h => h
  | d + 1, h => tgT_d (d := d) (tgT_m h)
/-- the state behind i data words, the edge then taken -/
def enH (g : aG) (b : Nat) (d : Nat → Nat) : Nat → Nat
  | 0 => b
  | i + 1 => gE g (ede g (enH g b d i) (d i))
def enE (g : aG) (b : Nat) (d : Nat → Nat) (i : Nat) : Nat := ede g (enH g b d i) (d i)
/-- the word written -/
def enW (g : aG) (b : Nat) (d : Nat → Nat) : Nat → aW
  | 0 => (0, fun _ => 0)
  | i + 1 => waL (enW g b d i) (gL g (enE g b d i)) (gB g)
theorem en_i {g : aG} {p b n : Nat} {d : Nat → Nat} (v : vG g) (he : isEnc g p) (hb : b < gN g) (hd : ∀ i, i < n → d i < 2 ^ p) : ∀ i, i ≤ n → enH g b d i < gN g ∧ (i < n → enE g b d i < gM g ∧ gS g (enE g b d i) = enH g b d i ∧ dn g (enE g b d i) = d i)
  | 0, _ => ⟨hb, fun h => by
    have := ede_i (s := b) (x := d 0) v (Nat.lt_of_lt_of_le (hd 0 h) (he.2 b hb))
    exact ⟨this.1, this.2.1, this.2.2.1⟩⟩
  | i + 1, h => by
    obtain ⟨h1, h2⟩ := en_i v he hb hd i (by omega)
    have h3 : enH g b d (i + 1) < gN g := (v.e (h2 (by omega)).1).2.2
    refine ⟨h3, fun h => ?_⟩
    have := ede_i (s := enH g b d (i + 1)) (x := d (i + 1)) v (Nat.lt_of_lt_of_le (hd _ h) (he.2 _ h3))
    exact ⟨this.1, this.2.1, this.2.2.1⟩
theorem enW_n {g : aG} {b : Nat} {d : Nat → Nat} : ∀ i, (enW g b d i).1 = gB g * i
  | 0 => (Nat.mul_zero _).symm
  | i + 1 => by
    show (waL (enW g b d i) _ (gB g)).1 = _
    rw [waL_n, enW_n i, Nat.mul_succ]
theorem enW_k {g : aG} {b : Nat} {d : Nat → Nat} (i : Nat) : ∀ k j, j < gB g * i → (enW g b d (i + k)).2 j = (enW g b d i).2 j
  | 0, _, _ => rfl
  | k + 1, j, hj => by
    show (waL (enW g b d (i + k)) _ (gB g)).2 j = _
    rw [wa_keep (by rw [enW_n]; exact Nat.lt_of_lt_of_le hj (Nat.mul_le_mul_left _ (by omega))), enW_k i k j hj]
theorem enW_l {g : aG} {p b n : Nat} {d : Nat → Nat} (v : vG g) (he : isEnc g p) (hb : b < gN g) (hd : ∀ i, i < n → d i < 2 ^ p) {i : Nat} (hi : i < n) : la (enW g b d n) (gB g) i = gL g (enE g b d i) := by
  have h := (en_i v he hb hd i (by omega)).2 hi
  refine la_new (x := enW g b d i) (enW_n i) (v.e h.1).2.1 fun j hj => ?_
  have := enW_k (g := g) (b := b) (d := d) (i + 1) (n - (i + 1)) j (by rw [Nat.mul_succ]; rw [enW_n] at hj; exact hj)
  rw [Nat.add_sub_cancel' hi] at this
  exact this
theorem en_K {g : aG} {p b n : Nat} {d : Nat → Nat} (v : vG g) (he : isEnc g p) (hb : b < gN g) (hd : ∀ i, i < n → d i < 2 ^ p) : (enW g b d n).1 / gB g = n := by
  have := v.b
  rw [enW_n, Nat.mul_div_cancel_left _ (by omega)]
/-- ENCODED WORDS ARE GENERATED -/
theorem en_fv {g : aG} {p b n : Nat} {d : Nat → Nat} (v : vG g) (he : isEnc g p) (hb : b < gN g) (hd : ∀ i, i < n → d i < 2 ^ p) : fvA g (enW g b d n) b = none := by
  have key : ∀ i, i ≤ n → (fvS g (enW g b d n) b i).testBit (enH g b d i) = true := by
    intro i
    induction i with
    | zero => intro _; exact (Nat.testBit_two_pow_self (n := b))
    | succ i ih =>
      intro hi
      have h := (en_i v he hb hd i (by omega)).2 (by omega)
      show (sucM g (fvS g (enW g b d n) b i) (la (enW g b d n) (gB g) i) (gM g)).testBit _ = true
      rw [suc_bit, enW_l v he hb hd (by omega)]
      exact ⟨enH g b d i, ih (by omega), enE g b d i, h.1, h.2.1, rfl, rfl⟩
  unfold fvA
  rw [en_K v he hb hd, ff_none fun m hm => ?_]
  · dsimp only
    rw [if_neg (by rw [enW_n, Nat.mul_comm]; exact Nat.lt_irrefl _)]
  · refine beq_eq_false_iff_ne.mpr fun q => ?_
    have := key (m + 1) (by omega)
    rw [q, Nat.zero_testBit] at this
    cases this
theorem stA_bit {g : aG} {p : Nat} {m l j : Nat} : (stA g p m l (gM g)).testBit j = true ↔ ∃ e, e < gM g ∧ (tkn g p l e = true ∧ m.testBit (gS g e) = true) ∧ gE g e = j := by
  unfold stA
  rw [fO_bit]
  simp only [Bool.and_eq_true]
theorem stB_bit {g : aG} {p : Nat} {m l j : Nat} : (stB g p m l (gM g)).testBit j = true ↔ ∃ e, e < gM g ∧ (tkn g p l e = true ∧ m.testBit (gE g e) = true) ∧ gS g e = j := by
  unfold stB
  rw [fO_bit]
  simp only [Bool.and_eq_true]
theorem en_tk {g : aG} {p b n : Nat} {d : Nat → Nat} (v : vG g) (he : isEnc g p) (hb : b < gN g) (hd : ∀ i, i < n → d i < 2 ^ p) {i : Nat} (hi : i < n) : tkn g p (la (enW g b d n) (gB g) i) (enE g b d i) = true := by
  have h := (en_i v he hb hd i (by omega)).2 hi
  unfold tkn
  rw [Bool.and_eq_true, decide_eq_true_eq, beq_iff_eq, h.2.2, enW_l v he hb hd hi]
  exact ⟨hd i hi, rfl⟩
theorem en_fw {g : aG} {p b n : Nat} {d : Nat → Nat} (v : vG g) (he : isEnc g p) (hb : b < gN g) (hd : ∀ i, i < n → d i < 2 ^ p) : ∀ i, i ≤ n → (fwd g p b (enW g b d n) i).testBit (enH g b d i) = true
  | 0, _ => Nat.testBit_two_pow_self (n := b)
  | i + 1, hi => by
    have h := (en_i v he hb hd i (by omega)).2 (by omega)
    show (stA g p (fwd g p b (enW g b d n) i) (la (enW g b d n) (gB g) i) (gM g)).testBit _ = true
    rw [stA_bit]
    exact ⟨enE g b d i, h.1, ⟨en_tk v he hb hd (by omega), by rw [h.2.1]; exact en_fw v he hb hd i (by omega)⟩, rfl⟩
theorem en_bw {g : aG} {p b n : Nat} {d : Nat → Nat} (v : vG g) (he : isEnc g p) (hb : b < gN g) (hd : ∀ i, i < n → d i < 2 ^ p) : ∀ k, k ≤ n → (bwd g p (enW g b d n) k).testBit (enH g b d (n - k)) = true
  | 0, _ => by
    show (2 ^ gN g - 1).testBit _ = true
    rw [Nat.testBit_two_pow_sub_one, decide_eq_true_eq]
    exact (en_i v he hb hd n (Nat.le_refl _)).1
  | k + 1, hk => by
    have h := (en_i v he hb hd (n - (k + 1)) (by omega)).2 (by omega)
    show (stB g p (bwd g p (enW g b d n) k) (la (enW g b d n) (gB g) ((enW g b d n).1 / gB g - 1 - k)) (gM g)).testBit _ = true
    rw [stB_bit, en_K v he hb hd, show n - 1 - k = n - (k + 1) by omega]
    refine ⟨enE g b d (n - (k + 1)), h.1, ⟨en_tk v he hb hd (by omega), ?_⟩, h.2.1⟩
    have := en_bw v he hb hd k (by omega)
    rw [show n - k = n - (k + 1) + 1 by omega] at this
    exact this
/-- another way from the start is the same so far, or has parted -/
theorem en_D {g : aG} {p b n : Nat} {d : Nat → Nat} (v : vG g) (he : isEnc g p) (hb : b < gN g) (hd : ∀ i, i < n → d i < 2 ^ p) : ∀ i, i ≤ n → ∀ u, (fwd g p b (enW g b d n) i).testBit u = true → u = enH g b d i ∨ ∃ k, tgD g k (enH g b d i) u
  | 0, _, u, h => by
    have h : (2 ^ b).testBit u = true := h
    rw [Nat.testBit_two_pow, decide_eq_true_eq] at h
    exact Or.inl h.symm
  | i + 1, hi, u, h => by
    have h : (stA g p (fwd g p b (enW g b d n) i) (la (enW g b d n) (gB g) i) (gM g)).testBit u = true := h
    rw [stA_bit] at h
    obtain ⟨f, h1, ⟨h2, h3⟩, rfl⟩ := h
    have hE := (en_i v he hb hd i (by omega)).2 (by omega)
    unfold tkn at h2
    rw [Bool.and_eq_true, beq_iff_eq, enW_l v he hb hd (by omega)] at h2
    rcases en_D v he hb hd i (by omega) _ h3 with q | ⟨k, q⟩
    · by_cases c : enE g b d i = f
      · exact Or.inl (by rw [← c]; rfl)
      · exact Or.inr ⟨0, enE g b d i, f, hE.1, h1, ⟨c, by rw [hE.2.1, q]⟩, h2.2.symm, rfl, rfl⟩
    · exact Or.inr ⟨k + 1, enE g b d i, f, hE.1, h1, by rw [hE.2.1]; exact q, h2.2.symm, rfl, rfl⟩
theorem en_T {g : aG} {p b n : Nat} {d : Nat → Nat} (v : vG g) (he : isEnc g p) (hb : b < gN g) (hd : ∀ i, i < n → d i < 2 ^ p) : ∀ k, k ≤ n → ∀ u, (bwd g p (enW g b d n) k).testBit u = true → tgT g k (enH g b d (n - k)) u
  | 0, _, _, _ => trivial
  | k + 1, hk, u, h => by
    have h : (stB g p (bwd g p (enW g b d n) k) (la (enW g b d n) (gB g) ((enW g b d n).1 / gB g - 1 - k)) (gM g)).testBit u = true := h
    rw [stB_bit, en_K v he hb hd, show n - 1 - k = n - (k + 1) by omega] at h
    obtain ⟨f, h1, ⟨h2, h3⟩, rfl⟩ := h
    have hE := (en_i v he hb hd (n - (k + 1)) (by omega)).2 (by omega)
    unfold tkn at h2
    rw [Bool.and_eq_true, beq_iff_eq, enW_l v he hb hd (by omega)] at h2
    have ih := en_T v he hb hd k (by omega) _ h3
    rw [show n - k = n - (k + 1) + 1 by omega] at ih
    exact ⟨enE g b d (n - (k + 1)), f, hE.1, h1, hE.2.1, rfl, h2.2.symm, ih⟩
theorem cmS_c {c : Nat → Bool} {f : Nat → Nat} {x : Nat} : ∀ {i : Nat}, (∀ j, j < i → c j = true → f j = x) → cmS c f i = some none ∨ cmS c f i = some (some x)
  | 0, _ => Or.inl rfl
  | i + 1, h => by
    have ih := cmS_c (c := c) (f := f) (x := x) (i := i) fun j hj => h j (by omega)
    have st : ∀ o, cmS c f i = some o → o = none ∨ o = some x → cmS c f (i + 1) = some none ∨ cmS c f (i + 1) = some (some x) := by
      intro o ho hox
      rw [cmS_s ho]
      cases q : c i
      · rw [if_neg (by decide)]
        rcases hox with rfl | rfl
        · exact Or.inl rfl
        · exact Or.inr rfl
      · rw [if_pos rfl, h i (by omega) q]
        rcases hox with rfl | rfl
        · exact Or.inr rfl
        · refine Or.inr ?_
          show (if x = x then some (some x) else none) = _
          rw [if_pos rfl]
    rcases ih with q | q
    · exact st _ q (Or.inl rfl)
    · exact st _ q (Or.inr rfl)
/-- a candidate's value is the common one, if there is one -/
theorem cmS_m {c : Nat → Bool} {f : Nat → Nat} : ∀ {i : Nat} {o : Option Nat}, cmS c f i = some o → ∀ j, j < i → c j = true → o = some (f j)
  | 0, _, _, j, hj, _ => absurd hj (Nat.not_lt_zero j)
  | i + 1, o, h, j, hj, hc => by
    cases q : cmS c f i with
    | none =>
      have : (cmS c f i).bind _ = some o := h
      rw [q] at this
      cases this
    | some o' =>
      rw [cmS_s q] at h
      by_cases e : j = i
      · subst e
        rw [hc, if_pos rfl] at h
        cases o' with
        | none => cases h; rfl
        | some y =>
          have h : (if y = f j then some (some y) else none) = some o := h
          split at h
          · rename_i e
            cases h
            rw [e]
          · cases h
      · have ih := cmS_m q j (by omega) hc
        subst ih
        split at h
        · have h : (if f j = f i then some (some (f j)) else none) = some o := h
          split at h
          · cases h; rfl
          · cases h
        · cases h; rfl
theorem en_cand {g : aG} {p b n : Nat} {d : Nat → Nat} (v : vG g) (he : isEnc g p) (hb : b < gN g) (hd : ∀ i, i < n → d i < 2 ^ p) {i : Nat} (hi : i < n) : cmC g p b (enW g b d n) i (enE g b d i) = true := by
  have h := (en_i v he hb hd i (by omega)).2 hi
  unfold cmC
  rw [Bool.and_eq_true, Bool.and_eq_true, en_K v he hb hd]
  refine ⟨en_tk v he hb hd hi, by rw [h.2.1]; exact en_fw v he hb hd i (by omega), ?_⟩
  have := en_bw v he hb hd (n - 1 - i) (by omega)
  rw [show n - (n - 1 - i) = i + 1 by omega] at this
  exact this
/-- DECODED: what was encoded, or nothing; with the anticipation's labels behind it, what was encoded -/
theorem en_dec {g : aG} {p b n : Nat} {d : Nat → Nat} (v : vG g) (he : isEnc g p) (hb : b < gN g) (hd : ∀ i, i < n → d i < 2 ^ p) {i : Nat} (hi : i < n) : (cmS (cmC g p b (enW g b d n) i) (dn g) (gM g) = none ∨ cmS (cmC g p b (enW g b d n) i) (dn g) (gM g) = some (some (d i))) ∧
    ∀ a, antA g = some a → i + a < n → cmS (cmC g p b (enW g b d n) i) (dn g) (gM g) = some (some (d i)) := by
  have hE := (en_i v he hb hd i (by omega)).2 hi
  have hc := en_cand v he hb hd hi
  have h1 : cmS (cmC g p b (enW g b d n) i) (dn g) (gM g) = none ∨ cmS (cmC g p b (enW g b d n) i) (dn g) (gM g) = some (some (d i)) := by
    cases q : cmS (cmC g p b (enW g b d n) i) (dn g) (gM g) with
    | none => exact Or.inl rfl
    | some o =>
      have := cmS_m q _ hE.1 hc
      rw [hE.2.2] at this
      rw [this]
      exact Or.inr rfl
  refine ⟨h1, fun a ha hia => ?_⟩
  have hno : ¬ tgO g a := by
    rcases ff_c (fun k => !pB (tgO g k)) 7 with ⟨k, q1, _, q3, _⟩ | ⟨q1, _⟩
    · have q1 : antA g = some k := q1
      rw [ha] at q1
      cases q1
      intro z
      rw [pB_t z] at q3
      cases q3
    · have q1 : antA g = none := q1
      rw [ha] at q1
      cases q1
  have all : ∀ f, f < gM g → cmC g p b (enW g b d n) i f = true → dn g f = d i := by
    intro f hf hcf
    by_cases c : enE g b d i = f
    · rw [← c]; exact hE.2.2
    · exfalso
      unfold cmC at hcf
      rw [Bool.and_eq_true, Bool.and_eq_true, en_K v he hb hd] at hcf
      obtain ⟨h2, h3, h4⟩ := hcf
      unfold tkn at h2
      rw [Bool.and_eq_true, beq_iff_eq, enW_l v he hb hd hi] at h2
      have hT := en_T v he hb hd (n - 1 - i) (by omega) _ h4
      rw [show n - (n - 1 - i) = i + 1 by omega] at hT
      have hD : ∃ k, tgD g k (enH g b d (i + 1)) (gE g f) := by
        rcases en_D v he hb hd i (by omega) _ h3 with q | ⟨k, q⟩
        · exact ⟨0, enE g b d i, f, hE.1, hf, ⟨c, by rw [hE.2.1, q]⟩, h2.2.symm, rfl, rfl⟩
        · exact ⟨k + 1, enE g b d i, f, hE.1, hf, by rw [hE.2.1]; exact q, h2.2.symm, rfl, rfl⟩
      obtain ⟨k, hD⟩ := hD
      obtain ⟨s, t, q, _⟩ := tg_all.mp ⟨_, _, hD, hT⟩
      obtain ⟨e', f', q1, q2, q3, q4, q5⟩ := tgO_D.mpr ⟨s, t, q⟩
      refine hno ⟨e', f', q1, q2, q3, q4, tgT_d (d := k + (n - 1 - i) - a) ?_⟩
      rw [show a + (k + (n - 1 - i) - a) = k + (n - 1 - i) by omega]
      exact q5
  rcases cmS_c (i := gM g) all with q | q
  · have := cmS_m q _ hE.1 hc
    cases this
  · exact q
