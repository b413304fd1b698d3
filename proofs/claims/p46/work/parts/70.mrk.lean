/-! mathematics: the word of a number has that number -/
theorem wa_bit {l : Nat} : ∀ (k : Nat) (x : aW) (j : Nat), (waL x l k).2 j = if j < x.1 then x.2 j else if j < x.1 + k then (l.testBit (x.1 + k - 1 - j)).toNat else x.2 j
  | 0, x, j => by
    show x.2 j = _
    split
    · rfl
    · rw [if_neg (by omega)]
  | k + 1, x, j => by
    show (waL (waB x (l.testBit k).toNat) l k).2 j = _
    rw [wa_bit k]
    show (if j < x.1 + 1 then (if j = x.1 then (l.testBit k).toNat else x.2 j) else if j < x.1 + 1 + k then (l.testBit (x.1 + 1 + k - 1 - j)).toNat else (if j = x.1 then (l.testBit k).toNat else x.2 j)) = _
    by_cases c : j < x.1
    · rw [if_pos (by omega), if_neg (by omega), if_pos c]
    · rw [if_neg c]
      by_cases c1 : j = x.1
      · subst c1
        rw [if_pos (by omega), if_pos rfl, if_pos (by omega)]
        congr 2
        omega
      · rw [if_neg (by omega), if_neg c1]
        by_cases c2 : j < x.1 + 1 + k
        · rw [if_pos c2, if_pos (by omega)]
          congr 2
          omega
        · rw [if_neg c2, if_neg (by omega)]
theorem wa_keep {l k j : Nat} {x : aW} (h : j < x.1) : (waL x l k).2 j = x.2 j := by rw [wa_bit, if_pos h]
theorem laF_cong {f f' : Nat → Nat} {b i : Nat} : ∀ {k : Nat}, (∀ j, j < k → f (b * i + j) = f' (b * i + j)) → laF f b i k = laF f' b i k
  | 0, _ => rfl
  | k + 1, h => by
    show 2 * laF f b i k + f (b * i + k) = 2 * laF f' b i k + f' (b * i + k)
    rw [laF_cong fun j hj => h j (by omega), h k (by omega)]
theorem laF_bits {f : Nat → Nat} {l B i : Nat} (hl : l < 2 ^ B) (h : ∀ j, j < B → f (B * i + j) = (l.testBit (B - 1 - j)).toNat) : ∀ k, k ≤ B → laF f B i k = l / 2 ^ (B - k)
  | 0, _ => by rw [Nat.sub_zero, Nat.div_eq_of_lt hl]; rfl
  | k + 1, hk => by
    show 2 * laF f B i k + f (B * i + k) = _
    rw [laF_bits hl h k (by omega), h k (by omega), show B - 1 - k = B - (k + 1) by omega, show B - k = B - (k + 1) + 1 by omega, Nat.pow_succ, ← Nat.div_div_eq_div_mul, Nat.testBit_eq_decide_div_mod_eq]
    have := Nat.mod_lt (l / 2 ^ (B - (k + 1))) (show 0 < 2 by omega)
    by_cases c : l / 2 ^ (B - (k + 1)) % 2 = 1
    · rw [decide_eq_true c]
      show 2 * _ + 1 = _
      omega
    · rw [decide_eq_false c]
      show 2 * _ + 0 = _
      omega
/-- the label that has been written is read -/
theorem la_new {l B i : Nat} {x W : aW} (hx : x.1 = B * i) (hl : l < 2 ^ B) (h : ∀ j, j < x.1 + B → W.2 j = (waL x l B).2 j) : la W B i = l := by
  have e := laF_bits (f := W.2) (i := i) hl (fun j hj => by
    rw [h _ (by omega), wa_bit, if_neg (by omega), if_pos (by omega)]
    congr 2
    omega) B (Nat.le_refl _)
  rw [Nat.sub_self, Nat.pow_zero, Nat.div_one] at e
  exact e
theorem la_old {B i : Nat} {x W : aW} (h : ∀ j, j < B * i + B → W.2 j = x.2 j) : la W B i = la x B i := laF_cong fun j hj => h _ (by omega)
theorem pop_B {l B : Nat} (hB : B ≤ 4) (hl : l < 2 ^ B) : fb_sm (fun i => (l.testBit i).toNat) B = pop l := by
  have h := fb_sm_split (fun i => (l.testBit i).toNat) B (4 - B)
  rw [Nat.add_sub_cancel' hB] at h
  unfold pop
  rw [h, fb_sm_cong (f := fun k => (l.testBit (B + k)).toNat) (g := fun _ => 0) fun k _ => ?_, fb_sm_const, Nat.mul_zero, Nat.add_zero]
  rw [Nat.testBit_lt_two_pow (Nat.lt_of_lt_of_le hl (Nat.pow_le_pow_right (by omega) (by omega)))]
  rfl
/-- the ones of a word with a label more -/
theorem onW_waL {l : Nat} : ∀ (k : Nat) (x : aW), onW (waL x l k) = onW x + fb_sm (fun i => (l.testBit i).toNat) k
  | 0, x => rfl
  | k + 1, x => by
    show onW (waL (waB x (l.testBit k).toNat) l k) = _
    rw [onW_waL k, fb_sm_succ]
    have e : onW (waB x (l.testBit k).toNat) = onW x + (l.testBit k).toNat := by
      show fb_sm (fun j => if j = x.1 then (l.testBit k).toNat else x.2 j) (x.1 + 1) = _
      rw [fb_sm_succ, fb_sm_out _ _ (Nat.le_refl _), if_pos rfl]
      rfl
    rw [e]
    omega
/-- the states of a word's way from a place on, and the weight left -/
def sJ (g : aG) (W : aW) (i0 s : Nat) : Nat → Nat
  | 0 => s
  | i + 1 => gE g (urE g (sJ g W i0 s i) (la W (gB g) (i0 + i)))
def zJ (g : aG) (W : aW) (i0 : Nat) (z : Option Int) : Nat → Option Int
  | 0 => z
  | i + 1 => subO (zJ g W i0 z i) (la W (gB g) (i0 + i))
theorem sJ_sh (g : aG) (W : aW) (i0 s : Nat) : ∀ i, sJ g W (i0 + 1) (gE g (urE g s (la W (gB g) i0))) i = sJ g W i0 s (i + 1)
  | 0 => rfl
  | i + 1 => by
    show gE g (urE g (sJ g W (i0 + 1) _ i) (la W (gB g) (i0 + 1 + i))) = gE g (urE g (sJ g W i0 s (i + 1)) (la W (gB g) (i0 + (i + 1))))
    rw [sJ_sh g W i0 s i, show i0 + 1 + i = i0 + (i + 1) by omega]
theorem zJ_sh (g : aG) (W : aW) (i0 : Nat) (z : Option Int) : ∀ i, zJ g W (i0 + 1) (subO z (la W (gB g) i0)) i = zJ g W i0 z (i + 1)
  | 0 => rfl
  | i + 1 => by
    show subO (zJ g W (i0 + 1) _ i) (la W (gB g) (i0 + 1 + i)) = subO (zJ g W i0 z (i + 1)) (la W (gB g) (i0 + (i + 1)))
    rw [zJ_sh g W i0 z i, show i0 + 1 + i = i0 + (i + 1) by omega]
theorem sJ_0 (g : aG) (W : aW) (s : Nat) : ∀ i, sJ g W 0 s i = sI g W s i
  | 0 => rfl
  | i + 1 => by
    show gE g (urE g (sJ g W 0 s i) (la W (gB g) (0 + i))) = gE g (urE g (sI g W s i) (la W (gB g) i))
    rw [sJ_0 g W s i, Nat.zero_add]
theorem zJ_0 (g : aG) (W : aW) (z : Option Int) : ∀ i, zJ g W 0 z i = zI g W z i
  | 0 => rfl
  | i + 1 => by
    show subO (zJ g W 0 z i) (la W (gB g) (0 + i)) = subO (zI g W z i) (la W (gB g) i)
    rw [zJ_0 g W z i, Nat.zero_add]
theorem urJ {g : aG} (v : vG g) (hd : det g) : ∀ (l s left : Nat) (z : Option Int) (x : aW) (i0 : Nat), s < gN g → left < nwO g l s z → x.1 = gB g * i0 →
    (urW g l s z left x).1 = gB g * (i0 + l) ∧ (∀ j, j < x.1 → (urW g l s z left x).2 j = x.2 j) ∧
    (∀ i, i < l → ewl g (sJ g (urW g l s z left x) i0 s i) (la (urW g l s z left x) (gB g) (i0 + i)) = some (urE g (sJ g (urW g l s z left x) i0 s i) (la (urW g l s z left x) (gB g) (i0 + i)))) ∧
    fb_sm (fun i => fb_sm (thr g (sJ g (urW g l s z left x) i0 s i) (l - 1 - i) (zJ g (urW g l s z left x) i0 z i)) (la (urW g l s z left x) (gB g) (i0 + i))) l = left ∧
    (∀ o, z = some o → (onW (urW g l s z left x) : Int) = onW x + o)
  | 0, s, left, z, x, i0, hs, h, hx => by
    refine ⟨by rw [Nat.add_zero]; exact hx, fun _ _ => rfl, fun i hi => absurd hi (Nat.not_lt_zero i), ?_, fun o e => ?_⟩
    · show 0 = left
      cases z with
      | none =>
        have h : left < 1 := h
        omega
      | some o =>
        unfold nwO at h
        dsimp only at h
        split at h
        · have h : left < if o.toNat = 0 then 1 else 0 := h
          split at h <;> omega
        · omega
    · subst e
      show (onW x : Int) = onW x + o
      unfold nwO at h
      dsimp only at h
      split at h
      · rename_i c
        have h : left < if o.toNat = 0 then 1 else 0 := h
        split at h <;> omega
      · omega
  | l + 1, s, left, z, x, i0, hs, h, hx => by
    have hb := v.b
    obtain ⟨h1, h2, h3, h4, h5⟩ := labF_i v hd h
    have he := ewl_i h4
    have hx' : (waL x (labF g s l z left) (gB g)).1 = gB g * (i0 + 1) := by rw [waL_n, hx, Nat.mul_succ]
    obtain ⟨a1, a2, a3, a4, a5⟩ := urJ v hd l (gE g (urE g s (labF g s l z left))) (left - fb_sm (thr g s l z) (labF g s l z left)) (subO z (labF g s l z left)) (waL x (labF g s l z left) (gB g)) (i0 + 1) (v.e he.1).2.2 h5 hx'
    have eW : urW g (l + 1) s z left x = urW g l (gE g (urE g s (labF g s l z left))) (subO z (labF g s l z left)) (left - fb_sm (thr g s l z) (labF g s l z left)) (waL x (labF g s l z left) (gB g)) := rfl
    rw [← eW] at a1 a2 a3 a4 a5
    generalize urW g (l + 1) s z left x = W at *
    have eL : la W (gB g) i0 = labF g s l z left := la_new hx h1 fun j hj => a2 j (by rw [waL_n]; exact hj)
    have h4' : ewl g s (la W (gB g) i0) = some (urE g s (la W (gB g) i0)) := by rw [eL]; exact h4
    refine ⟨by rw [a1]; congr 1; omega, fun j hj => ?_, fun i hi => ?_, ?_, fun o e => ?_⟩
    · rw [a2 j (by rw [waL_n]; omega), wa_keep hj]
    · cases i with
      | zero => exact h4'
      | succ i =>
        have := a3 i (by omega)
        rw [← eL, sJ_sh] at this
        rw [show i0 + (i + 1) = i0 + 1 + i by omega]
        exact this
    · rw [← eL] at a4
      have e1 : ∀ k, k < l → fb_sm (thr g (sJ g W (i0 + 1) (gE g (urE g s (la W (gB g) i0))) k) (l - 1 - k) (zJ g W (i0 + 1) (subO z (la W (gB g) i0)) k)) (la W (gB g) (i0 + 1 + k)) = fb_sm (thr g (sJ g W i0 s (1 + k)) (l + 1 - 1 - (1 + k)) (zJ g W i0 z (1 + k))) (la W (gB g) (i0 + (1 + k))) := fun k hk => by
        rw [sJ_sh, zJ_sh, Nat.add_comm k 1, show l - 1 - k = l + 1 - 1 - (1 + k) by omega, show i0 + 1 + k = i0 + (1 + k) by omega]
      rw [fb_sm_cong e1] at a4
      rw [show l + 1 = 1 + l by omega, fb_sm_split, show 1 + l = l + 1 by omega, a4]
      show 0 + fb_sm (thr g s (l + 1 - 1 - 0) z) (la W (gB g) i0) + _ = left
      rw [eL, show l + 1 - 1 - 0 = l by omega]
      have := h2 _ (Nat.le_refl _)
      omega
    · subst e
      have := a5 (o - (pop (labF g s l (some o) left) : Int)) rfl
      rw [onW_waL, pop_B hb.2.2.2.1 h1] at this
      rw [this]
      omega
theorem fv_sI {g : aG} (hd : det g) {x : aW} {s n : Nat} (h : ∀ m, m < n → ewl g (sI g x s m) (la x (gB g) m) = some (urE g (sI g x s m) (la x (gB g) m))) : ∀ m, m ≤ n → fvS g x s m = 2 ^ sI g x s m
  | 0, _ => rfl
  | m + 1, hm => by
    have e1 : fvS g x s (m + 1) = sucM g (fvS g x s m) (la x (gB g) m) (gM g) := rfl
    rw [e1, fv_sI hd h m (by omega), sucM_1 hd, h m (by omega)]
    rfl
/-- UNRANK, THEN RANK -/
theorem ur_rk {g : aG} (v : vG g) (hd : det g) {l s left : Nat} {z : Option Int} (hs : s < gN g) (h : left < nwO g l s z) :
    (urW g l s z left (0, fun _ => 0)).1 = gB g * l ∧ fvA g (urW g l s z left (0, fun _ => 0)) s = none ∧ rkN g (urW g l s z left (0, fun _ => 0)) s z l l = left ∧ ∀ o, z = some o → (onW (urW g l s z left (0, fun _ => 0)) : Int) = o := by
  have hb := v.b
  obtain ⟨a1, -, a3, a4, a5⟩ := urJ v hd l s left z (0, fun _ => 0) 0 hs h (by rw [Nat.mul_zero])
  rw [Nat.zero_add] at a1
  generalize urW g l s z left (0, fun _ => 0) = W at *
  have hq : W.1 / gB g = l := by rw [a1, Nat.mul_div_cancel_left _ (by omega)]
  have a3' : ∀ m, m < l → ewl g (sI g W s m) (la W (gB g) m) = some (urE g (sI g W s m) (la W (gB g) m)) := fun m hm => by
    have := a3 m hm
    rwa [sJ_0, Nat.zero_add] at this
  refine ⟨a1, ?_, ?_, fun o e => ?_⟩
  · unfold fvA
    rw [hq, ff_none fun m hm => ?_]
    · dsimp only
      rw [if_neg (by rw [a1, Nat.mul_comm]; exact Nat.lt_irrefl _)]
    · rw [fv_sI hd a3' (m + 1) hm]
      exact beq_eq_false_iff_ne.mpr (Nat.ne_of_gt (Nat.two_pow_pos _))
  · rw [← a4]
    exact fb_sm_cong fun i _ => by rw [sJ_0, zJ_0, Nat.zero_add]
  · have := a5 o e
    rw [this, show onW ((0, fun _ => 0) : aW) = 0 from rfl]
    omega
