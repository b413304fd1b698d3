/-! words: pure -/
def waB (x : aW) (b : Nat) : aW := (x.1 + 1, fun j => if j = x.1 then b else x.2 j)
def waL (x : aW) (l : Nat) : Nat → aW
  | 0 => x
  | k + 1 => waL (waB x (l.testBit k).toNat) l k
def laF (f : Nat → Nat) (b i : Nat) : Nat → Nat
  | 0 => 0
  | k + 1 => 2 * laF f b i k + f (b * i + k)
def la (x : aW) (b i : Nat) : Nat := laF x.2 b i b
def wInv (x : aW) (c : Nat) : aW := (x.1, fun j => if j < c then 1 - x.2 j else x.2 j)
def onW (x : aW) : Nat := fb_sm x.2 x.1
theorem waB_v {x : aW} {b : Nat} (v : vW x) (h : x.1 < 40) (hb : b ≤ 1) : vW (waB x b) := by
  refine ⟨h, fun j hj => ?_⟩
  have hj : j < x.1 + 1 := hj
  show (if j = x.1 then b else x.2 j) ≤ 1
  by_cases c : j = x.1
  · rw [if_pos c]; exact hb
  · rw [if_neg c]; exact v.2 j (by omega)
theorem waL_n {l : Nat} : ∀ {k : Nat} {x : aW}, (waL x l k).1 = x.1 + k
  | 0, _ => rfl
  | k + 1, x => by
    show (waL (waB x _) l k).1 = _
    rw [waL_n]
    show x.1 + 1 + k = _
    omega
theorem waL_v {l : Nat} : ∀ {k : Nat} {x : aW}, vW x → x.1 + k ≤ 40 → vW (waL x l k)
  | 0, _, v, _ => v
  | k + 1, x, v, h => by
    show vW (waL (waB x (l.testBit k).toNat) l k)
    exact waL_v (waB_v v (by omega) (by cases l.testBit k <;> decide)) (by show x.1 + 1 + k ≤ 40; omega)
theorem laF_lt {f : Nat → Nat} {b i : Nat} : ∀ {k : Nat}, (∀ j, j < b * i + k → f j ≤ 1) → laF f b i k < 2 ^ k
  | 0, _ => Nat.one_pos
  | k + 1, h => by
    have := laF_lt (f := f) (b := b) (i := i) (k := k) fun j hj => h j (by omega)
    have := h (b * i + k) (by omega)
    show 2 * laF f b i k + f (b * i + k) < 2 ^ (k + 1)
    rw [Nat.pow_succ]
    omega
theorem la_lt {x : aW} {b i : Nat} (v : vW x) (h : b * i + b ≤ x.1) : la x b i < 2 ^ b := laF_lt fun j hj => v.2 j (by omega)
theorem wInv_v {x : aW} {c : Nat} (v : vW x) : vW (wInv x c) := by
  refine ⟨v.1, fun j hj => ?_⟩
  have := v.2 j hj
  show (if j < c then 1 - x.2 j else x.2 j) ≤ 1
  split <;> omega
theorem onW_le {x : aW} (v : vW x) : onW x ≤ x.1 := by
  have := fb_sm_bound (f := x.2) (c := 1) (n := x.1) v.2
  unfold onW
  omega
theorem wInv_0 (x : aW) : wInv x 0 = x := by
  refine Prod.ext rfl (funext fun j => ?_)
  show (if j < 0 then 1 - x.2 j else x.2 j) = x.2 j
  rw [if_neg (Nat.not_lt_zero j)]
/-- one sign more inverted -/
theorem wInv_s (x : aW) (c : Nat) : (wInv x (c + 1)).2 = fun j => if j = c then 1 - x.2 c else (wInv x c).2 j := by
  funext j
  show (if j < c + 1 then 1 - x.2 j else x.2 j) = if j = c then 1 - x.2 c else if j < c then 1 - x.2 j else x.2 j
  by_cases q : j = c
  · subst q
    rw [if_pos (by omega), if_pos rfl]
  · rw [if_neg q]
    by_cases p : j < c
    · rw [if_pos p, if_pos (by omega)]
    · rw [if_neg p, if_neg (by omega)]
theorem onW_s {x : aW} (v : vW x) {c : Nat} (hc : c < x.1) : onW (wInv x (c + 1)) + x.2 c = onW (wInv x c) + (1 - x.2 c) := by
  have h := fb_sm_upd (wInv x c).2 (1 - x.2 c) hc
  rw [show (wInv x c).2 c = x.2 c from if_neg (by omega)] at h
  unfold onW
  rw [wInv_s]
  exact h
theorem onW_n {x : aW} (v : vW x) : ∀ c, c ≤ x.1 → onW (wInv x c) + fb_sm x.2 c + fb_sm x.2 c = onW x + c
  | 0, _ => by rw [wInv_0]; rfl
  | c + 1, h => by
    have h1 := onW_n v c (by omega)
    have h2 := onW_s v (c := c) (by omega)
    have h3 := fb_sm_succ x.2 c
    have h4 := v.2 c (by omega)
    omega
/-- balanced with the first j signs inverted -/
def isBal (x : aW) (j : Nat) : Bool := 2 * onW (wInv x j) == x.1
theorem bal_ex {x : aW} (v : vW x) (he : x.1 % 2 = 0) : ∃ j, j < x.1 + 1 ∧ isBal x j = true := by
  by_cases c : ∃ j, j < x.1 + 1 ∧ isBal x j = true
  · exact c
  · exfalso
    have hn : ∀ j, j ≤ x.1 → 2 * onW (wInv x j) ≠ x.1 := fun j hj q => c ⟨j, by omega, beq_iff_eq.mpr q⟩
    have h0 := hn 0 (by omega)
    have hl := hn x.1 (Nat.le_refl _)
    have e := onW_n v x.1 (Nat.le_refl _)
    have e0 : onW (wInv x 0) = onW x := by rw [wInv_0]
    have ef : fb_sm x.2 x.1 = onW x := rfl
    have st : ∀ j, j ≤ x.1 → ((x.1 < 2 * onW x → x.1 < 2 * onW (wInv x j)) ∧ (2 * onW x < x.1 → 2 * onW (wInv x j) < x.1)) := by
      intro j
      induction j with
      | zero => intro _; rw [e0]; exact ⟨id, id⟩
      | succ j ih =>
        intro hj
        have h1 := ih (by omega)
        have h2 := onW_s v (c := j) (by omega)
        have h3 := v.2 j (by omega)
        have h4 := hn (j + 1) hj
        have h5 := hn j (by omega)
        constructor
        · intro q; have := h1.1 q; omega
        · intro q; have := h1.2 q; omega
    have hs := st x.1 (Nat.le_refl _)
    rcases Nat.lt_or_ge x.1 (2 * onW x) with q | q
    · have := hs.1 q; omega
    · have := hs.2 (by omega); omega
def balJ (x : aW) : Nat := (ff (isBal x) (x.1 + 1)).getD 0
theorem balJ_i {x : aW} (v : vW x) (he : x.1 % 2 = 0) : balJ x ≤ x.1 ∧ isBal x (balJ x) = true ∧ ∀ j, j < balJ x → isBal x j = false := by
  rcases ff_c (isBal x) (x.1 + 1) with ⟨i, h1, h2, h3, h4⟩ | ⟨h1, h2⟩
  · have : balJ x = i := by unfold balJ; rw [h1]; rfl
    rw [this]
    exact ⟨by omega, h3, h4⟩
  · obtain ⟨j, h3, h4⟩ := bal_ex v he
    rw [h2 j h3] at h4
    cases h4
