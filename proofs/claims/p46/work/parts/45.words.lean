/-! words counted by length and ones -/
def pop (l : Nat) : Nat := fb_sm (fun i => (l.testBit i).toNat) 4
def pw (b : Bool) (l : Nat) : Nat := if b then pop l else 0
def hiW (b : Bool) (g : aG) (l : Nat) : Nat := if b then l * gB g else 0
/-- words of l labels out of s, with o ones (b), or all of them at o = 0 (not b) -/
def cW (b : Bool) (g : aG) : Nat → Nat → Nat → Nat
  | 0, _, o => if o = 0 then 1 else 0
  | l + 1, s, o => fb_sm (fun e => if gS g e = s then (if pw b (gL g e) ≤ o then cW b g l (gE g e) (o - pw b (gL g e)) else 0) else 0) (gM g)
theorem pop_le : ∀ B, B ≤ 4 → ∀ l, l < 2 ^ B → pop l ≤ B := by decide
theorem pop_4 {l : Nat} (h : l < 16) : pop l ≤ 4 := pop_le 4 (Nat.le_refl _) l h
theorem pw_le {b : Bool} {g : aG} (v : vG g) {l : Nat} (h : l < 2 ^ gB g) : pw b l ≤ hiW b g 1 := by
  have hb := v.b
  unfold pw hiW
  cases b
  · exact Nat.le_refl _
  · rw [if_pos rfl, if_pos rfl, Nat.one_mul]
    exact pop_le _ hb.2.2.2.1 l h
theorem hiW_s (b : Bool) (g : aG) (l : Nat) : hiW b g (l + 1) = hiW b g l + hiW b g 1 := by
  unfold hiW
  cases b
  · rfl
  · simp only [if_true]
    rw [Nat.succ_mul, Nat.one_mul]
theorem hiW_40 {b : Bool} {g : aG} (v : vG g) {l : Nat} (h : l ≤ 10) : hiW b g l ≤ 40 := by
  have hb := v.b
  unfold hiW
  cases b
  · exact Nat.zero_le _
  · have : l * gB g ≤ 10 * 4 := Nat.mul_le_mul h hb.2.2.2.1
    exact this
theorem cW_z {b : Bool} {g : aG} (v : vG g) : ∀ {l s o : Nat}, hiW b g l < o → cW b g l s o = 0
  | 0, s, o, h => by
    show (if o = 0 then 1 else 0) = 0
    rw [if_neg (by omega)]
  | l + 1, s, o, h => by
    rw [hiW_s] at h
    have e : cW b g (l + 1) s o = fb_sm (fun _ => 0) (gM g) := fb_sm_cong fun e he => by
      have := pw_le (b := b) v (v.e he).2.1
      split
      · split
        · exact cW_z v (by omega)
        · rfl
      · rfl
    rw [e, fb_sm_const, Nat.mul_zero]
theorem cW_0 {g : aG} : ∀ l s, cW false g l s 0 = pc g l s
  | 0, _ => rfl
  | l + 1, s => fb_sm_cong fun e _ => by
    split
    · show cW false g l (gE g e) (0 - 0) = _
      exact cW_0 l _
    · rfl
/-- added over all numbers of ones: all words -/
theorem sm_ex (f : Nat → Nat → Nat) (n : Nat) : ∀ m, fb_sm (fun o => fb_sm (fun e => f o e) n) m = fb_sm (fun e => fb_sm (fun o => f o e) m) n
  | 0 => by
    show 0 = fb_sm (fun _ => 0) n
    rw [fb_sm_const, Nat.mul_zero]
  | m + 1 => by
    rw [fb_sm_succ, sm_ex f n m, ← fb_sm_add]
    exact fb_sm_cong fun e _ => (fb_sm_succ _ _).symm
theorem sm_sh (f : Nat → Nat) (p : Nat) : ∀ K, fb_sm (fun o => if p ≤ o then f (o - p) else 0) (p + K) = fb_sm f K
  | 0 => by
    rw [Nat.add_zero, fb_sm_cong (g := fun _ => 0) (fun k hk => if_neg (by omega)), fb_sm_const, Nat.mul_zero]
    rfl
  | K + 1 => by
    show fb_sm _ (p + K + 1) = _
    rw [fb_sm_succ, sm_sh f p K, if_pos (by omega), Nat.add_sub_cancel_left, fb_sm_succ]
theorem cW_sum {g : aG} (v : vG g) : ∀ l s K, hiW true g l < K → fb_sm (cW true g l s) K = pc g l s
  | 0, s, K, h => by
    obtain ⟨K, rfl⟩ : ∃ k, K = k + 1 := ⟨K - 1, by omega⟩
    rw [show K + 1 = 1 + K by omega, fb_sm_split, fb_sm_cong (f := fun k => cW true g 0 s (1 + k)) (g := fun _ => 0) (fun k _ => if_neg (by omega)), fb_sm_const, Nat.mul_zero]
    rfl
  | l + 1, s, K, h => by
    rw [hiW_s] at h
    have e1 : fb_sm (cW true g (l + 1) s) K = fb_sm (fun o => fb_sm (fun e => if gS g e = s then (if pw true (gL g e) ≤ o then cW true g l (gE g e) (o - pw true (gL g e)) else 0) else 0) (gM g)) K := rfl
    rw [e1, sm_ex]
    refine fb_sm_cong fun e he => ?_
    have hp := pw_le (b := true) v (v.e he).2.1
    by_cases c : gS g e = s
    · rw [if_pos c, fb_sm_cong (g := fun o => if pw true (gL g e) ≤ o then cW true g l (gE g e) (o - pw true (gL g e)) else 0) (fun o _ => if_pos c)]
      obtain ⟨j, rfl⟩ : ∃ j, K = pw true (gL g e) + j := ⟨K - pw true (gL g e), by omega⟩
      rw [sm_sh]
      exact cW_sum v l _ j (by omega)
    · rw [if_neg c, fb_sm_cong (g := fun _ => 0) (fun o _ => if_neg c), fb_sm_const, Nat.mul_zero]
theorem pc_60 {g : aG} (v : vG g) {l s : Nat} (h : l ≤ 10) : pc g l s ≤ 2 ^ 60 := by
  refine Nat.le_trans (pc_le v l s) ?_
  have : 64 ^ l ≤ 64 ^ 10 := Nat.pow_le_pow_right (by omega) h
  exact this
theorem cW_60 {b : Bool} {g : aG} (v : vG g) {l s o : Nat} (h : l ≤ 10) : cW b g l s o ≤ 2 ^ 60 := by
  have h1 := pc_60 (s := s) v h
  cases b
  · by_cases c : o = 0
    · subst c
      rw [cW_0]
      exact h1
    · rw [cW_z v (show hiW false g l < o from Nat.pos_of_ne_zero c)]
      exact Nat.zero_le _
  · by_cases c : hiW true g l < o
    · rw [cW_z v c]
      exact Nat.zero_le _
    · have h2 := cW_sum v l s (hiW true g l + 1) (by omega)
      have h3 := fb_sm_part (cW true g l s) (show o < hiW true g l + 1 by omega)
      omega
/-- the weight left: none where ones do not weigh -/
def nwO (g : aG) (l s : Nat) (z : Option Int) : Nat := match z with
  | none => pc g l s
  | some z => if 0 ≤ z ∧ z ≤ 40 then cW true g l s z.toNat else 0
def subO (z : Option Int) (l : Nat) : Option Int := z.map fun z => z - (pop l : Int)
def thr (g : aG) (s l : Nat) (z : Option Int) (lab : Nat) : Nat := match ewl g s lab with
  | none => 0
  | some e => nwO g l (gE g e) (subO z lab)
theorem nwO_60 {g : aG} (v : vG g) {l s : Nat} {z : Option Int} (h : l ≤ 10) : nwO g l s z ≤ 2 ^ 60 := by
  cases z with
  | none => exact pc_60 v h
  | some z =>
    unfold nwO
    dsimp only
    split
    · exact cW_60 v h
    · exact Nat.zero_le _
theorem ewl_i {g : aG} {s l e : Nat} (h : ewl g s l = some e) : e < gM g ∧ gS g e = s ∧ gL g e = l := by
  rcases ff_c (fun e => gS g e == s && gL g e == l) (gM g) with ⟨i, h1, h2, h3, _⟩ | ⟨h1, _⟩
  · have h1 : ewl g s l = some i := h1
    rw [h] at h1
    cases h1
    rw [Bool.and_eq_true, beq_iff_eq, beq_iff_eq] at h3
    exact ⟨h2, h3⟩
  · have h1 : ewl g s l = none := h1
    rw [h] at h1
    cases h1
theorem ewl_d {g : aG} (hd : det g) {s l e : Nat} (he : e < gM g) (h1 : gS g e = s) (h2 : gL g e = l) : ewl g s l = some e := by
  refine ff_some (by rw [h1, h2]; simp) (fun j hj => ?_) he
  cases c : (gS g j == s && gL g j == l)
  · rfl
  · rw [Bool.and_eq_true, beq_iff_eq, beq_iff_eq] at c
    exact absurd ⟨c.1.trans h1.symm, c.2.trans h2.symm⟩ (hd j e hj he)
/-- over the edges of a state: over the labels -/
theorem sm_lab {g : aG} (v : vG g) (hd : det g) (s : Nat) (F : Nat → Nat) : ∀ n, n ≤ gM g → fb_sm (fun e => if gS g e = s then F e else 0) n = fb_sm (fun l => match ff (fun e => gS g e == s && gL g e == l) n with
    | none => 0
    | some e => F e) (2 ^ gB g)
  | 0, _ => by
    rw [fb_sm_cong (f := fun l => match ff (fun e => gS g e == s && gL g e == l) 0 with
      | none => 0
      | some e => F e) (g := fun _ => 0) (fun _ _ => rfl), fb_sm_const, Nat.mul_zero]
    rfl
  | n + 1, hn => by
    have hv := v.e hn
    rw [fb_sm_succ, sm_lab v hd s F n (by omega)]
    by_cases c : gS g n = s
    · rw [if_pos c]
      have hnone : ff (fun e => gS g e == s && gL g e == gL g n) n = none := ff_none fun j hj => by
        cases q : (gS g j == s && gL g j == gL g n)
        · rfl
        · rw [Bool.and_eq_true, beq_iff_eq, beq_iff_eq] at q
          exact absurd ⟨q.1.trans c.symm, q.2⟩ (hd j n hj hn)
      have h := fb_sm_upd (fun l => match ff (fun e => gS g e == s && gL g e == l) n with
        | none => 0
        | some e => F e) (F n) hv.2.1
      simp only [hnone, Nat.add_zero] at h
      rw [← h]
      refine fb_sm_cong fun l hl => ?_
      by_cases q : l = gL g n
      · subst q
        rw [if_pos rfl]
        have : ff (fun e => gS g e == s && gL g e == gL g n) (n + 1) = some n := by
          show (match ff (fun e => gS g e == s && gL g e == gL g n) n with
            | some i => some i
            | none => if (gS g n == s && gL g n == gL g n) = true then some n else none) = some n
          rw [hnone]
          simp [c]
        rw [this]
      · rw [if_neg q]
        have : ff (fun e => gS g e == s && gL g e == l) (n + 1) = ff (fun e => gS g e == s && gL g e == l) n := by
          show (match ff (fun e => gS g e == s && gL g e == l) n with
            | some i => some i
            | none => if (gS g n == s && gL g n == l) = true then some n else none) = _
          rw [beq_eq_false_iff_ne.mpr (fun q2 => q q2.symm), Bool.and_false]
          cases ff (fun e => gS g e == s && gL g e == l) n <;> rfl
        rw [this]
    · rw [if_neg c, Nat.add_zero]
      refine fb_sm_cong fun l hl => ?_
      have : ff (fun e => gS g e == s && gL g e == l) (n + 1) = ff (fun e => gS g e == s && gL g e == l) n := by
        show (match ff (fun e => gS g e == s && gL g e == l) n with
          | some i => some i
          | none => if (gS g n == s && gL g n == l) = true then some n else none) = _
        rw [beq_eq_false_iff_ne.mpr c, Bool.false_and]
        cases ff (fun e => gS g e == s && gL g e == l) n <;> rfl
      rw [this]
theorem thr_sum {g : aG} (v : vG g) (hd : det g) {s l : Nat} {z : Option Int} (hz : ∀ x, z = some x → 0 ≤ x ∧ x ≤ 40) : nwO g (l + 1) s z = fb_sm (thr g s l z) (2 ^ gB g) := by
  have h := sm_lab v hd s (fun e => nwO g l (gE g e) (subO z (gL g e))) (gM g) (Nat.le_refl _)
  have e1 : fb_sm (thr g s l z) (2 ^ gB g) = fb_sm (fun e => if gS g e = s then nwO g l (gE g e) (subO z (gL g e)) else 0) (gM g) := by
    rw [h]
    refine fb_sm_cong fun lab _ => ?_
    show (match ewl g s lab with
      | none => 0
      | some e => nwO g l (gE g e) (subO z lab)) = match ewl g s lab with
      | none => 0
      | some e => nwO g l (gE g e) (subO z (gL g e))
    cases q : ewl g s lab with
    | none => rfl
    | some e => dsimp only; rw [(ewl_i q).2.2]
  rw [e1]
  cases z with
  | none => exact fb_sm_cong fun e _ => rfl
  | some z =>
    obtain ⟨h1, h2⟩ := hz z rfl
    show (if 0 ≤ z ∧ z ≤ 40 then cW true g (l + 1) s z.toNat else 0) = _
    rw [if_pos ⟨h1, h2⟩]
    refine fb_sm_cong fun e he => ?_
    by_cases c : gS g e = s
    · rw [if_pos c, if_pos c]
      show (if pop (gL g e) ≤ z.toNat then cW true g l (gE g e) (z.toNat - pop (gL g e)) else 0) = if 0 ≤ z - (pop (gL g e) : Int) ∧ z - (pop (gL g e) : Int) ≤ 40 then cW true g l (gE g e) (z - (pop (gL g e) : Int)).toNat else 0
      by_cases c2 : pop (gL g e) ≤ z.toNat
      · rw [if_pos c2, if_pos (by omega)]
        congr 1
        omega
      · rw [if_neg c2, if_neg (by omega)]
    · rw [if_neg c, if_neg c]
