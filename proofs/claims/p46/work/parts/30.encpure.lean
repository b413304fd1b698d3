/-! the encoder: the order of the edges of a state -/
def key (g : aG) (e : Nat) : Nat := gL g e * 64 + e
def cnk (g : aG) (s t : Nat) : Nat := fb_ct (fun f => gS g f == s && decide (key g f < t)) (gM g)
theorem key_inj {g : aG} {e f : Nat} (he : e < 64) (hf : f < 64) (h : key g e = key g f) : e = f := by
  unfold key at h
  omega
theorem dn_cnk {g : aG} (v : vG g) {e : Nat} (he : e < gM g) : dn g e = cnk g (gS g e) (key g e) := by
  have hm := v.2.1
  refine fb_ct_cong fun f hf => ?_
  unfold key
  congr 1
  rw [Bool.eq_iff_iff]
  simp only [Bool.or_eq_true, Bool.and_eq_true, decide_eq_true_eq, beq_iff_eq]
  omega
theorem cnk_s {g : aG} (v : vG g) (s t : Nat) : (∃ e, e < gM g ∧ gS g e = s ∧ key g e = t ∧ cnk g s (t + 1) = cnk g s t + 1) ∨ ((∀ e, e < gM g → ¬ (gS g e = s ∧ key g e = t)) ∧ cnk g s (t + 1) = cnk g s t) := by
  have hm := v.2.1
  by_cases c : ∃ e, e < gM g ∧ gS g e = s ∧ key g e = t
  · obtain ⟨e, he, h1, h2⟩ := c
    refine Or.inl ⟨e, he, h1, h2, ?_⟩
    have h := fb_ct_upd (fun f => gS g f == s && decide (key g f < t)) true he
    have h3 : (gS g e == s && decide (key g e < t)) = false := by rw [h2, decide_eq_false (Nat.lt_irrefl t), Bool.and_false]
    rw [h3, if_neg (by decide), if_pos rfl, Nat.add_zero] at h
    unfold cnk
    rw [← h]
    refine fb_ct_cong fun k hk => ?_
    by_cases q : k = e
    · subst q
      rw [if_pos rfl, h1, h2]
      simp
    · rw [if_neg q]
      congr 1
      have : key g k ≠ t := fun e2 => q (key_inj (by omega) (by omega) (e2.trans h2.symm))
      exact decide_eq_decide.mpr (by omega)
  · refine Or.inr ⟨fun e he q => c ⟨e, he, q⟩, fb_ct_cong fun k hk => ?_⟩
    by_cases q : gS g k = s
    · have : key g k ≠ t := fun e2 => c ⟨k, hk, q, e2⟩
      congr 1
      exact decide_eq_decide.mpr (by omega)
    · rw [beq_eq_false_iff_ne.mpr q, Bool.false_and, Bool.false_and]
theorem cnk_0 {g : aG} {s : Nat} : cnk g s 0 = 0 := fb_ct_zero.mpr fun k _ => by
  rw [decide_eq_false (Nat.not_lt_zero _), Bool.and_false]
theorem cnk_end {g : aG} (v : vG g) {s : Nat} : cnk g s (2 ^ gB g * 64) = outD g s := by
  refine fb_ct_cong fun k hk => ?_
  have := v.e hk
  have := v.2.1
  rw [decide_eq_true, Bool.and_true]
  unfold key
  omega
theorem cnk_mono {g : aG} {s t u : Nat} (h : t ≤ u) : cnk g s t ≤ cnk g s u := fb_ct_sub fun k _ q => by
  rw [Bool.and_eq_true, decide_eq_true_eq] at q ⊢
  exact ⟨q.1, by omega⟩
theorem dn_lt {g : aG} (v : vG g) {e f : Nat} (he : e < gM g) (hf : f < gM g) (hs : gS g e = gS g f) (hk : key g e < key g f) : dn g e < dn g f := by
  have hm := v.2.1
  rw [dn_cnk v he, dn_cnk v hf, hs]
  rcases cnk_s v (gS g f) (key g e) with ⟨e', _, _, _, q⟩ | ⟨q, _⟩
  · have := cnk_mono (g := g) (s := gS g f) (show key g e + 1 ≤ key g f from hk)
    omega
  · exact absurd ⟨hs, rfl⟩ (q e he)
theorem dn_inj {g : aG} (v : vG g) {e f : Nat} (he : e < gM g) (hf : f < gM g) (hs : gS g e = gS g f) (hd : dn g e = dn g f) : e = f := by
  have hm := v.2.1
  rcases Nat.lt_trichotomy (key g e) (key g f) with q | q | q
  · have := dn_lt v he hf hs q
    omega
  · exact key_inj (by omega) (by omega) q
  · have := dn_lt v hf he hs.symm q
    omega
theorem dn_surj {g : aG} (v : vG g) {s x : Nat} (h : x < outD g s) : ∃ e, e < gM g ∧ gS g e = s ∧ dn g e = x := by
  obtain ⟨t, _, h2, h3⟩ := fb_first (p := fun t => x < cnk g s t) (n := 2 ^ gB g * 64 + 1) ⟨2 ^ gB g * 64, by omega, by rw [cnk_end v]; exact h⟩
  cases t with
  | zero => rw [cnk_0] at h2; omega
  | succ t =>
    have h4 := h3 t (by omega)
    rcases cnk_s v s t with ⟨e, he, e1, e2, e3⟩ | ⟨_, e3⟩
    · exact ⟨e, he, e1, by rw [dn_cnk v he, e1, e2]; omega⟩
    · rw [e3] at h2
      exact absurd h2 h4
theorem dn_le {g : aG} (v : vG g) (e : Nat) : dn g e ≤ 64 := Nat.le_trans (fb_ct_le _ _) v.2.1
/-- the edge that carries a data word out of a state -/
def ede (g : aG) (s x : Nat) : Nat := (ff (fun e => gS g e == s && dn g e == x) (gM g)).getD 0
theorem ede_i {g : aG} (v : vG g) {s x : Nat} (h : x < outD g s) : ede g s x < gM g ∧ gS g (ede g s x) = s ∧ dn g (ede g s x) = x ∧ ∀ j, j < ede g s x → (gS g j == s && dn g j == x) = false := by
  obtain ⟨e, he, h1, h2⟩ := dn_surj v h
  rcases ff_c (fun e => gS g e == s && dn g e == x) (gM g) with ⟨i, q1, q2, q3, q4⟩ | ⟨q1, q2⟩
  · have e0 : ede g s x = i := by unfold ede; rw [q1]; rfl
    rw [Bool.and_eq_true, beq_iff_eq, beq_iff_eq] at q3
    rw [e0]
    exact ⟨q2, q3.1, q3.2, q4⟩
  · have := q2 e he
    rw [h1, h2] at this
    simp at this
/-- data words that all candidates share -/
def cmN (o : Option Nat) (x : Nat) : Option (Option Nat) := match o with
  | none => some (some x)
  | some y => if y = x then some (some y) else none
def cmS (c : Nat → Bool) (f : Nat → Nat) : Nat → Option (Option Nat)
  | 0 => some none
  | i + 1 => (cmS c f i).bind fun o => if c i then cmN o (f i) else some o
theorem cmS_s {c : Nat → Bool} {f : Nat → Nat} {i : Nat} {o : Option Nat} (h : cmS c f i = some o) : cmS c f (i + 1) = if c i then cmN o (f i) else some o := by
  show (cmS c f i).bind _ = _
  rw [h]
  rfl
theorem cmS_x {c : Nat → Bool} {f : Nat → Nat} : ∀ {i x : Nat}, cmS c f i = some (some x) → ∃ j, j < i ∧ x = f j
  | 0, _, h => by cases h
  | i + 1, x, h => by
    cases q : cmS c f i with
    | none =>
      have : (cmS c f i).bind _ = some (some x) := h
      rw [q] at this
      cases this
    | some o =>
      rw [cmS_s q] at h
      split at h
      · cases o with
        | none =>
          cases h
          exact ⟨i, by omega, rfl⟩
        | some y =>
          have h : (if y = f i then some (some y) else none) = some (some x) := h
          split at h
          · rename_i e
            cases h
            exact ⟨i, by omega, e⟩
          · cases h
      · cases h
        obtain ⟨j, h1, h2⟩ := cmS_x q
        exact ⟨j, by omega, h2⟩
theorem cmS_n {c : Nat → Bool} {f : Nat → Nat} {i : Nat} (h : cmS c f i = none) : ∀ {k : Nat}, cmS c f (i + k) = none
  | 0 => h
  | k + 1 => by
    show (cmS c f (i + k)).bind _ = none
    rw [cmS_n h]
    rfl
def cmR (o : Option (Option Nat)) : Int32 := match o with
  | some (some x) => nI x
  | _ => -(nI 5)
def tkn (g : aG) (p l e : Nat) : Bool := decide (dn g e < 2 ^ p) && gL g e == l
def stA (g : aG) (p m l : Nat) (n : Nat) : Nat := fO (fun e => tkn g p l e && m.testBit (gS g e)) (gE g) n
def stB (g : aG) (p m l : Nat) (n : Nat) : Nat := fO (fun e => tkn g p l e && m.testBit (gE g e)) (gS g) n
def fwd (g : aG) (p b : Nat) (x : aW) : Nat → Nat
  | 0 => 2 ^ b
  | j + 1 => stA g p (fwd g p b x j) (la x (gB g) j) (gM g)
def bwd (g : aG) (p : Nat) (x : aW) : Nat → Nat
  | 0 => 2 ^ gN g - 1
  | k + 1 => stB g p (bwd g p x k) (la x (gB g) (x.1 / gB g - 1 - k)) (gM g)
def cmC (g : aG) (p b : Nat) (x : aW) (i : Nat) (e : Nat) : Bool := tkn g p (la x (gB g) i) e && ((fwd g p b x i).testBit (gS g e) && (bwd g p x (x.1 / gB g - 1 - i)).testBit (gE g e))
theorem stA_lt {g : aG} (v : vG g) {p m l n : Nat} (hn : n ≤ gM g) : stA g p m l n < 2 ^ 16 := by
  have hb := v.b
  exact Nat.lt_of_lt_of_le (fO_lt (K := gN g) fun e he => (v.e (by omega)).2.2) (Nat.pow_le_pow_right (by omega) hb.1)
theorem stB_lt {g : aG} (v : vG g) {p m l n : Nat} (hn : n ≤ gM g) : stB g p m l n < 2 ^ 16 := by
  have hb := v.b
  exact Nat.lt_of_lt_of_le (fO_lt (K := gN g) fun e he => (v.e (by omega)).1) (Nat.pow_le_pow_right (by omega) hb.1)
theorem fwd_lt {g : aG} (v : vG g) {p b : Nat} {x : aW} (hb : b < gN g) : ∀ j, fwd g p b x j < 2 ^ 16
  | 0 => z_p2 (by have := v.1; omega)
  | j + 1 => stA_lt v (Nat.le_refl _)
theorem bwd_lt {g : aG} (v : vG g) {p : Nat} {x : aW} : ∀ j, bwd g p x j < 2 ^ 16
  | 0 => by
    have : 2 ^ gN g ≤ 2 ^ 16 := Nat.pow_le_pow_right (by omega) v.1
    have := Nat.two_pow_pos (gN g)
    show 2 ^ gN g - 1 < _
    omega
  | j + 1 => stB_lt v (Nat.le_refl _)
noncomputable def oStart (a : aS) (x y : Int32) : aR := if pIn x = true then (if aIn y (gN a.1) = true then (if isEncB a.1 x.toNatClampNeg = true then (nI (outD a.1 y.toNatClampNeg), sEn a (some (x.toNatClampNeg, y.toNatClampNeg, y.toNatClampNeg))) else oErr 7 a) else oErr 1 a) else oErr 3 a
def oEnc (a : aS) (x : Int32) : aR := match a.2.2.2.2.2 with
  | none => oErr 7 a
  | some q => if aIn x (2 ^ q.1) = true then (if a.2.1.1 + gB a.1 ≤ 40 then (nI (gL a.1 (ede a.1 q.2.2 x.toNatClampNeg)), sEn (sWd a (waL a.2.1 (gL a.1 (ede a.1 q.2.2 x.toNatClampNeg)) (gB a.1))) (some (q.1, q.2.1, gE a.1 (ede a.1 q.2.2 x.toNatClampNeg)))) else oErr 4 a) else oErr 3 a
def oDec (a : aS) (x : Int32) : aR := match a.2.2.2.2.2 with
  | none => oErr 7 a
  | some q => if a.2.1.1 / gB a.1 * gB a.1 = a.2.1.1 ∧ aIn x (a.2.1.1 / gB a.1) = true then (cmR (cmS (cmC a.1 q.1 q.2.1 a.2.1 x.toNatClampNeg) (dn a.1) (gM a.1)), a) else oErr 5 a
theorem oStart_v {a : aS} {x y : Int32} (v : vS a) : vS (oStart a x y).2 := by
  have hb := v.1.b
  unfold oStart
  split
  · rename_i c
    split
    · rename_i c1
      split
      · rename_i c2
        obtain ⟨p, rfl, h1, h2⟩ := pIn_x c
        obtain ⟨s, hs, rfl⟩ := aIn_x (show gN a.1 < 2 ^ 31 by omega) c1
        rw [nI_clamp (show p < 2 ^ 31 by omega)] at c2
        rw [nI_clamp (show p < 2 ^ 31 by omega), nI_clamp (show s < 2 ^ 31 by omega)]
        refine sEn_v v fun p' b' h' q => ?_
        cases q
        exact ⟨h1, h2, hs, hs, pB_iff.mp c2⟩
      · exact v
    · exact v
  · exact v
theorem oEnc_x {a : aS} {p b h x : Nat} (v : vS a) (e : a.2.2.2.2.2 = some (p, b, h)) (hx : x < 2 ^ p) : x < outD a.1 h := by
  have ve := v.2.2.2.2.2 p b h e
  have := ve.2.2.2.2.2 h ve.2.2.2.1
  omega
theorem oEnc_v {a : aS} {x : Int32} (v : vS a) : vS (oEnc a x).2 := by
  have hb := v.1.b
  unfold oEnc
  split
  · exact v
  · rename_i q e
    split
    · rename_i c
      split
      · rename_i c1
        obtain ⟨p, b, h⟩ := q
        have ve := v.2.2.2.2.2 p b h e
        have hp : 2 ^ p ≤ 16 := Nat.pow_le_pow_right (n := 2) (by omega) ve.2.1
        obtain ⟨j, hj, rfl⟩ := aIn_x (show 2 ^ p < 2 ^ 31 by omega) c
        have hd := ede_i v.1 (oEnc_x v e hj)
        rw [nI_clamp (show j < 2 ^ 31 by omega)]
        have hv := v.1.e hd.1
        refine sEn_v (sWd_v v (waL_v v.2.1 c1)) fun p' b' h' q => ?_
        cases q
        exact ⟨ve.1, ve.2.1, ve.2.2.1, hv.2.2, ve.2.2.2.2⟩
      · exact v
    · exact v
theorem oDec_v {a : aS} {x : Int32} (v : vS a) : vS (oDec a x).2 := by
  unfold oDec
  split
  · exact v
  · split <;> exact v
