/-! eigenvectors: the rounds -/
def stp (g : aG) (p : Nat) (f : Nat → Nat) (s : Nat) : Nat := min (f s) (fb_sm (fun e => if gS g e = s then f (gE g e) else 0) (gM g) / 2 ^ p)
theorem evR_s {g : aG} {p b t : Nat} : evR g p b (t + 1) = stp g p (evR g p b t) := rfl
theorem evR_le {g : aG} {p b : Nat} : ∀ t s, evR g p b t s ≤ b
  | 0, _ => Nat.le_refl _
  | t + 1, s => Nat.le_trans (Nat.min_le_left _ _) (evR_le t s)
theorem stp_cong {g : aG} (v : vG g) {p : Nat} {f f' : Nat → Nat} (h : ∀ s, s < gN g → f s = f' s) {s : Nat} (hs : s < gN g) : stp g p f s = stp g p f' s := by
  unfold stp
  rw [h s hs, fb_sm_cong fun e he => ?_]
  rw [h _ (v.e he).2.2]
theorem evR_stay {g : aG} (v : vG g) {p b t : Nat} (h : ∀ s, s < gN g → evR g p b (t + 1) s = evR g p b t s) : ∀ k s, s < gN g → evR g p b (t + k) s = evR g p b t s
  | 0, _, _ => rfl
  | k + 1, s, hs => by
    show stp g p (evR g p b (t + k)) s = _
    rw [stp_cong v (evR_stay v h k) hs]
    exact h s hs
theorem evF_stay {g : aG} (v : vG g) {p b t : Nat} (ht : t ≤ 513) (h : ∀ s, s < gN g → evR g p b (t + 1) s = evR g p b t s) {s : Nat} (hs : s < gN g) : evF g p b s = evR g p b t s := by
  have := evR_stay v h (513 - t) s hs
  rw [Nat.add_sub_cancel' ht] at this
  exact this
def evSm (g : aG) (p b t : Nat) : Nat := fb_sm (evR g p b t) (gN g)
theorem evSm_0 {g : aG} {p b : Nat} : evSm g p b 0 = gN g * b := fb_sm_const b (gN g)
theorem evSm_lt {g : aG} {p b t s : Nat} (hs : s < gN g) (h : evR g p b (t + 1) s ≠ evR g p b t s) : evSm g p b (t + 1) < evSm g p b t := by
  have hle : ∀ s, evR g p b (t + 1) s ≤ evR g p b t s := fun s => Nat.min_le_left _ _
  have h1 := fb_sm_upd (evR g p b t) (evR g p b (t + 1) s) hs
  have h2 : evSm g p b (t + 1) ≤ fb_sm (fun k => if k = s then evR g p b (t + 1) s else evR g p b t k) (gN g) := fb_sm_le fun k hk => by
    by_cases c : k = s
    · rw [if_pos c, c]
      exact Nat.le_refl _
    · rw [if_neg c]
      exact hle k
  have := hle s
  unfold evSm at *
  omega
theorem sum_le {g : aG} (v : vG g) {f : Nat → Nat} (hf : ∀ s, s < gN g → f s ≤ 32) {s n : Nat} (hn : n ≤ gM g) : fb_sm (fun e => if gS g e = s then f (gE g e) else 0) n ≤ 2048 := by
  have := v.2.1
  refine Nat.le_trans (fb_sm_bound (c := 32) fun e he => ?_) (by omega)
  split
  · exact hf _ (v.e (by omega)).2.2
  · exact Nat.zero_le _
theorem evOk_t {g : aG} {p b : Nat} : evOk g p b = true ↔ ∃ s, s < gN g ∧ evF g p b s ≠ 0 := by
  unfold evOk
  rw [List.any_eq_true]
  refine ⟨fun ⟨s, h1, h2⟩ => ⟨s, List.mem_range.mp h1, by simpa using h2⟩, fun ⟨s, h1, h2⟩ => ⟨s, List.mem_range.mpr h1, by simpa using h2⟩⟩
theorem evOk_f {g : aG} {p b : Nat} (h : ∀ s, s < gN g → evF g p b s = 0) : evOk g p b = false := by
  cases c : evOk g p b
  · rfl
  · obtain ⟨s, h1, h2⟩ := evOk_t.mp c
    exact absurd (h s h1) h2
theorem evB_some {g : aG} {p b : Nat} (h1 : 1 ≤ b) (h2 : b ≤ 32) (h : evOk g p b = true) (hn : ∀ j, 1 ≤ j → j < b → evOk g p j = false) : evB g p = b := by
  have e : (List.range 32).find? (fun b => evOk g p (b + 1)) = some (b - 1) := by
    rw [List.find?_range_eq_some]
    refine ⟨by rw [Nat.sub_add_cancel h1]; exact h, List.mem_range.mpr (by omega), fun j hj => ?_⟩
    rw [hn (j + 1) (by omega) (by omega)]
    rfl
  unfold evB
  rw [e]
  show b - 1 + 1 = b
  omega
theorem evB_none {g : aG} {p : Nat} (hn : ∀ j, 1 ≤ j → j ≤ 32 → evOk g p j = false) : evB g p = 0 := by
  have e : (List.range 32).find? (fun b => evOk g p (b + 1)) = none := by
    rw [List.find?_range_eq_none]
    intro j hj
    rw [hn (j + 1) (by omega) (by omega)]
    rfl
  unfold evB
  rw [e]
  rfl
theorem evB_le {g : aG} {p : Nat} : evB g p ≤ 32 := by
  unfold evB
  cases e : (List.range 32).find? (fun b => evOk g p (b + 1)) with
  | none => exact Nat.zero_le _
  | some b =>
    have := List.mem_range.mp (List.find?_range_eq_some.mp e).2.1
    show b + 1 ≤ 32
    omega
def evEl (g : aG) (p s : Nat) : Int32 := if evB g p = 0 then -(nI 5) else nI (evF g p (evB g p) s)
def oElem (a : aS) (x y : Int32) : aR := if pIn x = true then (if aIn y (gN a.1) = true then (evEl a.1 x.toNatClampNeg y.toNatClampNeg, a) else oErr 1 a) else oErr 3 a
def oBnd (a : aS) (x : Int32) : aR := if pIn x = true then (evAns a.1 x.toNatClampNeg, a) else oErr 3 a
def eqE (g : aG) (p i x : Nat) : Bool := decide (evB g p ≠ 0) && (decide (i < gN g) && x == evF g p (evB g p) i)
def fdA (g : aG) (p : Nat) (q : aW) : Option Nat := ff (fun i => !eqE g p i (q.2 i)) q.1
def oDiff (a : aS) (x y : Int32) : aR := if aIn x 3 = true then (if pIn y = true then (match a.2.2.2.2.1 x.toNatClampNeg with
  | none => oErr 10 a
  | some q => (oNI (fdA a.1 y.toNatClampNeg q), a)) else oErr 3 a) else oErr 9 a
theorem oElem_v {a : aS} {x y : Int32} (v : vS a) : vS (oElem a x y).2 := by
  unfold oElem
  split
  · split <;> exact v
  · exact v
theorem oBnd_v {a : aS} {x : Int32} (v : vS a) : vS (oBnd a x).2 := by
  unfold oBnd
  split <;> exact v
theorem oDiff_v {a : aS} {x y : Int32} (v : vS a) : vS (oDiff a x y).2 := by
  unfold oDiff
  split
  · split
    · split <;> exact v
    · exact v
  · exact v
