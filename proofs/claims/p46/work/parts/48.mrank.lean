/-! the number of a word -/
def sI (g : aG) (x : aW) (s : Nat) : Nat → Nat
  | 0 => s
  | i + 1 => gE g (urE g (sI g x s i) (la x (gB g) i))
def zI (g : aG) (x : aW) (z : Option Int) : Nat → Option Int
  | 0 => z
  | i + 1 => subO (zI g x z i) (la x (gB g) i)
def rkN (g : aG) (x : aW) (s : Nat) (z : Option Int) (n : Nat) : Nat → Nat := fb_sm (fun i => fb_sm (thr g (sI g x s i) (n - 1 - i) (zI g x z i)) (la x (gB g) i))
theorem sucM_1 {g : aG} (hd : det g) {s l : Nat} : sucM g (2 ^ s) l (gM g) = match ewl g s l with
    | none => 0
    | some e => 2 ^ gE g e := by
  have hb : ∀ j, (sucM g (2 ^ s) l (gM g)).testBit j = true ↔ ∃ e, e < gM g ∧ (gS g e = s ∧ gL g e = l) ∧ gE g e = j := fun j => by
    unfold sucM
    rw [fO_bit]
    refine ⟨fun ⟨e, h1, h2, h3⟩ => ⟨e, h1, ?_, h3⟩, fun ⟨e, h1, h2, h3⟩ => ⟨e, h1, ?_, h3⟩⟩
    · rw [Bool.and_eq_true, beq_iff_eq, Nat.testBit_two_pow, decide_eq_true_eq] at h2
      exact ⟨h2.1.symm, h2.2⟩
    · rw [Bool.and_eq_true, beq_iff_eq, Nat.testBit_two_pow, decide_eq_true_eq]
      exact ⟨h2.1.symm, h2.2⟩
  cases q : ewl g s l with
  | none =>
    dsimp only
    refine Nat.eq_of_testBit_eq fun j => ?_
    rw [Nat.zero_testBit]
    cases c : (sucM g (2 ^ s) l (gM g)).testBit j
    · rfl
    · obtain ⟨e, h1, h2, _⟩ := (hb j).mp c
      rw [ewl_d hd h1 h2.1 h2.2] at q
      cases q
  | some e =>
    dsimp only
    have he := ewl_i q
    refine Nat.eq_of_testBit_eq fun j => ?_
    rw [Nat.testBit_two_pow, Bool.eq_iff_iff, hb j, decide_eq_true_eq]
    refine ⟨fun ⟨e', h1, h2, h3⟩ => ?_, fun h => ⟨e, he.1, he.2, h⟩⟩
    rw [ewl_d hd h1 h2.1 h2.2] at q
    cases q
    exact h3
theorem fv_path {g : aG} (hd : det g) {x : aW} {s : Nat} {n : Nat} (h : ∀ m, m < n → (fvS g x s (m + 1) == 0) = false) : ∀ m, m ≤ n → fvS g x s m = 2 ^ sI g x s m
  | 0, _ => rfl
  | m + 1, hm => by
    have ih := fv_path hd h m (by omega)
    have h1 := beq_eq_false_iff_ne.mp (h m hm)
    have e1 : fvS g x s (m + 1) = sucM g (fvS g x s m) (la x (gB g) m) (gM g) := rfl
    rw [e1, ih, sucM_1 hd] at h1 ⊢
    cases q : ewl g (sI g x s m) (la x (gB g) m) with
    | none => rw [q] at h1; exact absurd rfl h1
    | some e =>
      dsimp only
      show 2 ^ gE g e = 2 ^ gE g (urE g (sI g x s m) (la x (gB g) m))
      unfold urE
      rw [q]
      rfl
theorem fv_ewl {g : aG} (hd : det g) {x : aW} {s : Nat} {n : Nat} (h : ∀ m, m < n → (fvS g x s (m + 1) == 0) = false) {m : Nat} (hm : m < n) : ewl g (sI g x s m) (la x (gB g) m) = some (urE g (sI g x s m) (la x (gB g) m)) := by
  have ih := fv_path hd h m (by omega)
  have h1 := beq_eq_false_iff_ne.mp (h m hm)
  have e1 : fvS g x s (m + 1) = sucM g (fvS g x s m) (la x (gB g) m) (gM g) := rfl
  rw [e1, ih, sucM_1 hd] at h1
  unfold urE
  cases q : ewl g (sI g x s m) (la x (gB g) m) with
  | none => rw [q] at h1; exact absurd rfl h1
  | some e => rfl
theorem fvA_none {g : aG} {x : aW} {s : Nat} (h : fvA g x s = none) : (∀ m, m < x.1 / gB g → (fvS g x s (m + 1) == 0) = false) ∧ ¬ x.1 / gB g * gB g < x.1 := by
  unfold fvA at h
  rcases ff_c (fun m => fvS g x s (m + 1) == 0) (x.1 / gB g) with ⟨i, h1, _⟩ | ⟨h1, h2⟩
  · rw [h1] at h
    cases h
  · rw [h1] at h
    dsimp only at h
    split at h
    · cases h
    · rename_i c
      exact ⟨h2, c⟩
theorem sI_lt {g : aG} (v : vG g) (hd : det g) {x : aW} {s n : Nat} (hs : s < gN g) (h : ∀ m, m < n → (fvS g x s (m + 1) == 0) = false) : ∀ m, m ≤ n → sI g x s m < gN g
  | 0, _ => hs
  | m + 1, hm => (v.e (ewl_i (fv_ewl hd h hm)).1).2.2
def fvNone (g : aG) (x : aW) (s : Nat) : Bool := match fvA g x s with
  | none => true
  | some _ => false
theorem fvNone_t {g : aG} {x : aW} {s : Nat} : fvNone g x s = true ↔ fvA g x s = none := by
  unfold fvNone
  cases fvA g x s <;> simp
def zF (x : aW) (y : Int32) : Option Int := if y = nI 1 then some (onW x : Int) else none
noncomputable def oRank (a : aS) (x y : Int32) : Int64 × aS := (if aIn x (gN a.1) = true then (if aIn y 2 = true then (if detB a.1 = true then (if a.2.1.1 / gB a.1 ≤ 10 ∧ fvNone a.1 a.2.1 x.toNatClampNeg = true then lN (rkN a.1 a.2.1 x.toNatClampNeg (zF a.2.1 y) (a.2.1.1 / gB a.1) (a.2.1.1 / gB a.1)) else -(lN 5)) else -(lN 6)) else -(lN 3)) else -(lN 1), a)
def zQ (K all : Nat) (o : Int32) (z : Option Int) : Prop := (all = 1 ∧ z = none) ∨ (all = 0 ∧ z = some o.toInt ∧ -(K : Int) ≤ o.toInt ∧ o.toInt ≤ 40)
theorem z_subT2 {o : Int32} {p : Nat} (h0 : -1000 ≤ o.toInt) (hp : p ≤ 4) : (o - nI p).toInt = o.toInt - (p : Int) := by
  have h1 := fb_rng o
  have h2 : (nI p).toInt = (p : Int) := nI_toInt (by omega)
  rw [fb_subI (by omega) (by omega), h2]
theorem zQ_next {K lab all : Nat} {o : Int32} {z : Option Int} (hz : zQ K all o z) (hK : K ≤ 900) (hp : lab < 16) : zQ (K + 4) all (o - nI (pop lab)) (subO z lab) := by
  rcases hz with ⟨rfl, rfl⟩ | ⟨rfl, rfl, h0, h40⟩
  · exact Or.inl ⟨rfl, rfl⟩
  · have h4 := pop_4 hp
    have e := z_subT2 (o := o) (p := pop lab) (by omega) h4
    exact Or.inr ⟨rfl, by unfold subO; rw [e]; rfl, by rw [e]; omega, by rw [e]; omega⟩
section MRk
variable {d : Nat} {Q : mx_Po} {w : mx_Wd} {g : aG} {a : aS}
end MRk
