/-! mathematics: words inverted back; eigenvectors; a deterministic graph's anticipation -/
theorem wInv_2 {x : aW} (v : vW x) {c : Nat} (hc : c ≤ x.1) : wInv (wInv x c) c = x := by
  refine Prod.ext rfl (funext fun j => ?_)
  show (if j < c then 1 - (if j < c then 1 - x.2 j else x.2 j) else (if j < c then 1 - x.2 j else x.2 j)) = x.2 j
  by_cases q : j < c
  · have := v.2 j (by omega)
    rw [if_pos q, if_pos q]
    omega
  · rw [if_neg q, if_neg q]
/-- the rounds come to rest -/
theorem evR_rest {g : aG} (v : vG g) {p b : Nat} (hb : b ≤ 32) : ∃ t, t ≤ 512 ∧ ∀ s, s < gN g → evR g p b (t + 1) s = evR g p b t s := by
  by_cases c : ∃ t, t ≤ 512 ∧ ∀ s, s < gN g → evR g p b (t + 1) s = evR g p b t s
  · exact c
  · exfalso
    have h : ∀ t, t ≤ 513 → evSm g p b t + t ≤ 512 := by
      intro t
      induction t with
      | zero =>
        intro _
        have hv := v.1
        have : gN g * b ≤ 16 * 32 := Nat.mul_le_mul hv hb
        rw [evSm_0]
        exact this
      | succ t ih =>
        intro ht
        have h1 := ih (by omega)
        have h2 : ∃ s, s < gN g ∧ evR g p b (t + 1) s ≠ evR g p b t s := by
          by_cases q : ∃ s, s < gN g ∧ evR g p b (t + 1) s ≠ evR g p b t s
          · exact q
          · exact absurd ⟨t, by omega, fun s hs => by
              by_cases z : evR g p b (t + 1) s = evR g p b t s
              · exact z
              · exact absurd ⟨s, hs, z⟩ q⟩ c
        obtain ⟨s, hs, h2⟩ := h2
        have := evSm_lt hs h2
        omega
    have := h 513 (Nat.le_refl _)
    omega
theorem evF_fix {g : aG} (v : vG g) {p b : Nat} (hb : b ≤ 32) {s : Nat} (hs : s < gN g) : stp g p (evF g p b) s = evF g p b s := by
  obtain ⟨t, ht, h⟩ := evR_rest (p := p) v hb
  have e : ∀ s, s < gN g → evF g p b s = evR g p b t s := fun s hs => evF_stay v (by omega) h hs
  rw [stp_cong v e hs, e s hs]
  exact h s hs
/-- THE INEQUALITY -/
theorem evF_in {g : aG} (v : vG g) {p b : Nat} (hb : b ≤ 32) {s : Nat} (hs : s < gN g) : evF g p b s * 2 ^ p ≤ fb_sm (fun e => if gS g e = s then evF g p b (gE g e) else 0) (gM g) := by
  have h := evF_fix (p := p) v hb hs
  unfold stp at h
  have h2 : evF g p b s ≤ fb_sm (fun e => if gS g e = s then evF g p b (gE g e) else 0) (gM g) / 2 ^ p := by omega
  exact (Nat.le_div_iff_mul_le (Nat.two_pow_pos p)).mp h2
theorem evB_ok {g : aG} {p : Nat} (h : evB g p ≠ 0) : evOk g p (evB g p) = true := by
  unfold evB at h ⊢
  cases e : (List.range 32).find? (fun b => evOk g p (b + 1)) with
  | none => rw [e] at h; exact absurd rfl h
  | some b =>
    show evOk g p (b + 1) = true
    exact (List.find?_range_eq_some.mp e).1
theorem fb_ct_sm (c : Nat → Bool) : ∀ n, fb_ct c n = fb_sm (fun e => if c e = true then 1 else 0) n
  | 0 => rfl
  | n + 1 => by rw [fb_ct_succ, fb_sm_succ, fb_ct_sm c n]
/-- AN ENCODER'S VECTOR IS ALL ONES -/
theorem evB_enc {g : aG} {p : Nat} (h : isEnc g p) (v : vG g) : evB g p = 1 := by
  have key : ∀ t s, s < gN g → evR g p 1 t s = 1 := by
    intro t
    induction t with
    | zero => intro _ _; rfl
    | succ t ih =>
      intro s hs
      show min (evR g p 1 t s) (fb_sm (fun e => if gS g e = s then evR g p 1 t (gE g e) else 0) (gM g) / 2 ^ p) = 1
      have e1 : fb_sm (fun e => if gS g e = s then evR g p 1 t (gE g e) else 0) (gM g) = outD g s := by
        unfold outD
        rw [fb_ct_sm]
        refine fb_sm_cong fun e he => ?_
        by_cases c : gS g e = s
        · rw [if_pos c, if_pos (beq_iff_eq.mpr c), ih _ (v.e he).2.2]
        · rw [if_neg c, if_neg (by rw [beq_iff_eq]; exact c)]
      have h2 : 1 ≤ outD g s / 2 ^ p := (Nat.le_div_iff_mul_le (Nat.two_pow_pos p)).mpr (by have := h.2 s hs; omega)
      rw [e1, ih s hs]
      omega
  exact evB_some (Nat.le_refl _) (by omega) (evOk_t.mpr ⟨0, h.1, by unfold evF; rw [key 513 0 h.1]; decide⟩) fun j h1 h2 => by omega
theorem ant_det {g : aG} (hd : det g) : antA g = some 0 := by
  have h : ¬ tgO g 0 := fun ⟨e, f, h1, h2, h3, h4, _⟩ => hd e f h1 h2 ⟨h3, h4⟩
  have h2 : (!pB (tgO g 0)) = true := by
    rw [pB_f h]
    rfl
  exact ff_some h2 (fun j hj => absurd hj (Nat.not_lt_zero j)) (by omega)
