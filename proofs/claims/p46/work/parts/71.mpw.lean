/-! mathematics: a power counts the words of so many times the labels -/
theorem pwG_at {g : aG} {q : Nat} {l : List aI} : ∀ n e, e < n → gS (pwG g q l n) e = (l.getD e i0).1 ∧ gL (pwG g q l n) e = (l.getD e i0).2.1 ∧ gE (pwG g q l n) e = (l.getD e i0).2.2
  | 0, _, h => absurd h (Nat.not_lt_zero _)
  | n + 1, e, h => by
    have hm : gM (pwG g q l n) = n := (pwG_f n).2.1
    show (if e = gM (pwG g q l n) then _ else _) = _ ∧ (if e = gM (pwG g q l n) then _ else _) = _ ∧ (if e = gM (pwG g q l n) then _ else _) = _
    rw [hm]
    by_cases c : e = n
    · subst c
      rw [if_pos rfl, if_pos rfl, if_pos rfl]
      exact ⟨rfl, rfl, rfl⟩
    · rw [if_neg c, if_neg c, if_neg c]
      exact pwG_at n e (by omega)
/-- a sum over a list -/
def lS (f : aI → Nat) : List aI → Nat
  | [] => 0
  | x :: l => f x + lS f l
theorem lS_app (f : aI → Nat) : ∀ (l l' : List aI), lS f (l ++ l') = lS f l + lS f l'
  | [], l' => by show lS f l' = 0 + lS f l'; omega
  | x :: l, l' => by
    show f x + lS f (l ++ l') = f x + lS f l + lS f l'
    rw [lS_app f l l']
    omega
theorem lS_sm (f : aI → Nat) (l : List aI) : ∀ n, n ≤ l.length → fb_sm (fun k => f (l.getD k i0)) n = lS f (l.take n)
  | 0, _ => by rw [List.take_zero]; rfl
  | n + 1, h => by
    rw [fb_sm_succ, lS_sm f l n (by omega), List.take_add_one, lS_app, List.getD_eq_getElem?_getD, List.getElem?_eq_getElem (show n < l.length from h)]
    rfl
theorem lS_0 {f : aI → Nat} : ∀ {l : List aI}, (∀ x ∈ l, f x = 0) → lS f l = 0
  | [], _ => rfl
  | x :: l, h => by
    show f x + lS f l = 0
    rw [h x List.mem_cons_self, lS_0 fun y hy => h y (List.mem_cons_of_mem _ hy)]
theorem lS_cong {f f' : aI → Nat} : ∀ {l : List aI}, (∀ x ∈ l, f x = f' x) → lS f l = lS f' l
  | [], _ => rfl
  | x :: l, h => by
    show f x + lS f l = f' x + lS f' l
    rw [h x List.mem_cons_self, lS_cong fun y hy => h y (List.mem_cons_of_mem _ hy)]
/-- ways weighed at their ends -/
def pF (g : aG) (F : Nat → Nat) : Nat → Nat → Nat
  | 0, s => F s
  | t + 1, s => fb_sm (fun e => if gS g e = s then pF g F t (gE g e) else 0) (gM g)
theorem pF_0 {g : aG} {F : Nat → Nat} : ∀ {t s : Nat}, pc g t s = 0 → pF g F t s = 0
  | 0, s, h => by cases h
  | t + 1, s, h => by
    have h := fb_sm_zero (f := fun e => if gS g e = s then pc g t (gE g e) else 0) (n := gM g) h
    have e : pF g F (t + 1) s = fb_sm (fun _ => 0) (gM g) := fb_sm_cong fun k hk => by
      have this : (if gS g k = s then pc g t (gE g k) else 0) = 0 := h k hk
      by_cases c : gS g k = s
      · rw [if_pos c] at this ⊢
        exact pF_0 this
      · rw [if_neg c]
    rw [e, fb_sm_const, Nat.mul_zero]
theorem pF_pc (g : aG) (u : Nat) : ∀ t s, pF g (pc g u) t s = pc g (t + u) s
  | 0, s => by rw [Nat.zero_add]; rfl
  | t + 1, s => by
    rw [show t + 1 + u = t + u + 1 by omega]
    exact fb_sm_cong fun e _ => by rw [pF_pc g u t]
theorem pF_cong {g : aG} (v : vG g) {F F' : Nat → Nat} (h : ∀ s, s < gN g → F s = F' s) : ∀ t s, s < gN g → pF g F t s = pF g F' t s
  | 0, s, hs => h s hs
  | t + 1, s, hs => fb_sm_cong fun e he => by
    split
    · exact pF_cong v h t _ (v.e he).2.2
    · rfl
theorem wk_1 {g : aG} : ∀ {t : Nat} {i x : aI}, x ∈ wk g t i → x.1 = i.1
  | 0, i, x, h => by
    have h : x ∈ [i] := h
    rw [List.mem_singleton.mp h]
  | t + 1, i, x, h => by
    have h : x ∈ (nxP g t i (gM g)).flatMap (wk g t) := h
    obtain ⟨y, hy, hx⟩ := List.mem_flatMap.mp h
    rw [wk_1 hx]
    have nx : ∀ n, y ∈ nxP g t i n → y.1 = i.1 := by
      intro n
      induction n with
      | zero => intro q; cases q
      | succ n ih =>
        intro q
        rw [nxP_s] at q
        split at q
        · rcases List.mem_append.mp q with q | q
          · exact ih q
          · rw [List.mem_singleton.mp q]
            rfl
        · exact ih q
    exact nx _ hy
theorem lS_flat (f : aI → Nat) (k : aI → List aI) : ∀ l, lS f (l.flatMap k) = lS (fun x => lS f (k x)) l
  | [] => rfl
  | x :: l => by rw [List.flatMap_cons, lS_app, lS_flat f k l]; rfl
theorem lS_nx {g : aG} {t : Nat} {i : aI} (f : aI → Nat) (h : ∀ e, ¬ 0 < pc g t (gE g e) → f (nxI g i e) = 0) : ∀ n, lS f (nxP g t i n) = fb_sm (fun e => if gS g e = i.2.2 then f (nxI g i e) else 0) n
  | 0 => rfl
  | n + 1 => by
    rw [nxP_s, fb_sm_succ, ← lS_nx f h n]
    cases c : nxC g t i n
    · rw [if_neg (by decide)]
      unfold nxC at c
      by_cases q : gS g n = i.2.2
      · rw [if_pos q]
        rw [q, beq_self_eq_true, Bool.true_and, decide_eq_false_iff_not] at c
        rw [h n c]
        rfl
      · rw [if_neg q]
        rfl
    · rw [if_pos rfl, lS_app]
      unfold nxC at c
      rw [Bool.and_eq_true, beq_iff_eq] at c
      rw [if_pos c.1]
      rfl
theorem lS_wk (g : aG) (F : Nat → Nat) : ∀ t i, lS (fun x => F x.2.2) (wk g t i) = pF g F t i.2.2
  | 0, i => rfl
  | t + 1, i => by
    show lS _ ((nxP g t i (gM g)).flatMap (wk g t)) = _
    rw [lS_flat, lS_cong (f' := fun x => pF g F t x.2.2) fun x _ => lS_wk g F t x, lS_nx _ fun e he => pF_0 (by show pc g t (gE g e) = 0; omega)]
    rfl
theorem lS_fm (g : aG) (F : Nat → Nat) (q s : Nat) : ∀ n, lS (fun x => if x.1 = s then F x.2.2 else 0) (fmP g q n) = if s < n then pF g F q s else 0
  | 0 => by rw [if_neg (Nat.not_lt_zero s)]; rfl
  | n + 1 => by
    show lS _ (fmP g q n ++ wk g q (n, 0, n)) = _
    rw [lS_app, lS_fm g F q s n]
    by_cases c : s = n
    · subst c
      rw [if_neg (Nat.lt_irrefl s), if_pos (Nat.lt_succ_self s), lS_cong (f := fun x => if x.1 = s then F x.2.2 else 0) (f' := fun x => F x.2.2) (l := wk g q (s, 0, s)) (fun x hx => if_pos (wk_1 hx)), lS_wk]
      exact Nat.zero_add _
    · rw [lS_0 (l := wk g q (n, 0, n)) fun x hx => if_neg fun e => c (e.symm.trans (wk_1 hx))]
      by_cases d : s < n
      · rw [if_pos d, if_pos (by omega)]
        rfl
      · rw [if_neg d, if_neg (by omega)]
/-- THE POWER COUNTS ALIKE -/
theorem pw_pc {g : aG} (v : vG g) (q : Nat) : ∀ m s, s < gN g → pc (powG g q) m s = pc g (q * m) s
  | 0, s, _ => by rw [Nat.mul_zero]; rfl
  | m + 1, s, hs => by
    have hm : gM (powG g q) = (powL g q).length := (pwG_f _).2.1
    have e1 : pc (powG g q) (m + 1) s = lS (fun x => if x.1 = s then pc (powG g q) m x.2.2 else 0) (powL g q) := by
      show fb_sm (fun e => if gS (powG g q) e = s then pc (powG g q) m (gE (powG g q) e) else 0) (gM (powG g q)) = _
      rw [hm, fb_sm_cong (g := fun k => (fun x : aI => if x.1 = s then pc (powG g q) m x.2.2 else 0) ((powL g q).getD k i0)) fun k hk => ?_, lS_sm (fun x : aI => if x.1 = s then pc (powG g q) m x.2.2 else 0) _ _ (Nat.le_refl _), List.take_length]
      have := pwG_at (g := g) (q := q) (l := powL g q) _ k hk
      show (if gS (pwG g q (powL g q) (powL g q).length) k = s then pc (powG g q) m (gE (pwG g q (powL g q) (powL g q).length) k) else 0) = _
      rw [this.1, this.2.2]
    have e2 := lS_fm g (pc (powG g q) m) q s (gN g)
    rw [if_pos hs] at e2
    rw [e1, show powL g q = fmP g q (gN g) from rfl, e2, pF_cong v (pw_pc v q m) q s hs, pF_pc, Nat.mul_succ, Nat.add_comm]
/-! different ways have different labels -/
def lR (x y : aI) : Prop := ¬ (x.1 = y.1 ∧ x.2.1 = y.2.1)
theorem nxI_l {g : aG} (v : vG g) {i : aI} {e : Nat} (he : e < gM g) : (nxI g i e).2.1 = i.2.1 * 2 ^ gB g + gL g e := by
  show i.2.1 * 2 ^ gB g ||| gL g e = _
  rw [Nat.mul_comm, ← Nat.two_pow_add_eq_or_of_lt (v.e he).2.1]
theorem nxP_m {g : aG} {t : Nat} {i x : aI} : ∀ n, x ∈ nxP g t i n → ∃ e, e < n ∧ gS g e = i.2.2 ∧ x = nxI g i e
  | 0, h => by cases h
  | n + 1, h => by
    rw [nxP_s] at h
    have old : x ∈ nxP g t i n → ∃ e, e < n + 1 ∧ gS g e = i.2.2 ∧ x = nxI g i e := fun h => by
      obtain ⟨e, h1, h2⟩ := nxP_m n h
      exact ⟨e, by omega, h2⟩
    split at h
    · rename_i c
      rcases List.mem_append.mp h with h | h
      · exact old h
      · unfold nxC at c
        rw [Bool.and_eq_true, beq_iff_eq] at c
        exact ⟨n, by omega, c.1, List.mem_singleton.mp h⟩
    · exact old h
theorem wk_rng {g : aG} (v : vG g) : ∀ {t : Nat} {i x : aI}, x ∈ wk g t i → i.2.1 * 2 ^ (gB g * t) ≤ x.2.1 ∧ x.2.1 < (i.2.1 + 1) * 2 ^ (gB g * t)
  | 0, i, x, h => by
    have h : x ∈ [i] := h
    rw [List.mem_singleton.mp h, Nat.mul_zero, Nat.pow_zero]
    omega
  | t + 1, i, x, h => by
    obtain ⟨y, hy, hx⟩ := List.mem_flatMap.mp (show x ∈ (nxP g t i (gM g)).flatMap (wk g t) from h)
    obtain ⟨e, he, -, rfl⟩ := nxP_m _ hy
    have hl := (v.e he).2.1
    have ih := wk_rng v hx
    rw [nxI_l v he] at ih
    rw [Nat.mul_succ, Nat.add_comm (gB g * t), Nat.pow_add, ← Nat.mul_assoc, ← Nat.mul_assoc]
    have h1 : i.2.1 * 2 ^ gB g ≤ i.2.1 * 2 ^ gB g + gL g e := Nat.le_add_right _ _
    have h2 : i.2.1 * 2 ^ gB g + gL g e + 1 ≤ (i.2.1 + 1) * 2 ^ gB g := by rw [Nat.succ_mul]; omega
    exact ⟨Nat.le_trans (Nat.mul_le_mul_right _ h1) ih.1, Nat.lt_of_lt_of_le ih.2 (Nat.mul_le_mul_right _ h2)⟩
theorem nxP_p {g : aG} (v : vG g) (hd : det g) {t : Nat} {i : aI} : ∀ n, n ≤ gM g → (nxP g t i n).Pairwise fun x y => x.2.1 ≠ y.2.1
  | 0, _ => List.Pairwise.nil
  | n + 1, hn => by
    rw [nxP_s]
    split
    · rename_i c
      unfold nxC at c
      rw [Bool.and_eq_true, beq_iff_eq] at c
      refine List.pairwise_append.mpr ⟨nxP_p v hd n (by omega), List.pairwise_singleton _ _, fun x hx y hy => ?_⟩
      obtain ⟨e, he, h1, rfl⟩ := nxP_m _ hx
      rw [List.mem_singleton.mp hy, nxI_l v (show e < gM g by omega), nxI_l v (show n < gM g by omega)]
      exact fun q => hd e n he (by omega) ⟨h1.trans c.1.symm, by omega⟩
    · exact nxP_p v hd n (by omega)
theorem wk_p {g : aG} (v : vG g) (hd : det g) : ∀ t i, (wk g t i).Pairwise fun x y => x.2.1 ≠ y.2.1
  | 0, i => List.pairwise_singleton _ _
  | t + 1, i => by
    show ((nxP g t i (gM g)).flatMap (wk g t)).Pairwise _
    refine List.pairwise_flatMap.mpr ⟨fun a _ => wk_p v hd t a, (nxP_p v hd (gM g) (Nat.le_refl _)).imp fun {a b} hab x hx y hy e => ?_⟩
    have h1 := wk_rng v hx
    have h2 := wk_rng v hy
    rw [e] at h1
    rcases Nat.lt_trichotomy a.2.1 b.2.1 with q | q | q
    · have : (a.2.1 + 1) * 2 ^ (gB g * t) ≤ b.2.1 * 2 ^ (gB g * t) := Nat.mul_le_mul_right _ q
      omega
    · exact hab q
    · have : (b.2.1 + 1) * 2 ^ (gB g * t) ≤ a.2.1 * 2 ^ (gB g * t) := Nat.mul_le_mul_right _ q
      omega
theorem fm_s {g : aG} {q : Nat} {x : aI} : ∀ n, x ∈ fmP g q n → x.1 < n
  | 0, h => by cases h
  | n + 1, h => by
    rcases List.mem_append.mp (show x ∈ fmP g q n ++ wk g q (n, 0, n) from h) with h | h
    · have := fm_s n h
      omega
    · rw [wk_1 h]
      show n < n + 1
      omega
theorem fm_p {g : aG} (v : vG g) (hd : det g) (q : Nat) : ∀ n, (fmP g q n).Pairwise lR
  | 0 => List.Pairwise.nil
  | n + 1 => by
    show (fmP g q n ++ wk g q (n, 0, n)).Pairwise lR
    refine List.pairwise_append.mpr ⟨fm_p v hd q n, (wk_p v hd q _).imp fun {x y} h e => h e.2, fun x hx y hy e => ?_⟩
    have h1 := fm_s n hx
    have h2 := wk_1 hy
    have : x.1 = n := e.1.trans h2
    omega
/-- A POWER OF A DETERMINISTIC GRAPH IS DETERMINISTIC -/
theorem pw_det {g : aG} (v : vG g) (hd : det g) (q : Nat) : det (powG g q) := by
  intro e f hef hf
  have hm : gM (powG g q) = (powL g q).length := (pwG_f _).2.1
  rw [hm] at hf
  have h1 := pwG_at (g := g) (q := q) (l := powL g q) _ e (Nat.lt_trans hef hf)
  have h2 := pwG_at (g := g) (q := q) (l := powL g q) _ f hf
  have hp := List.pairwise_iff_getElem.mp (fm_p v hd q (gN g)) e f (Nat.lt_trans hef hf) hf hef
  have g1 : (powL g q).getD e i0 = (fmP g q (gN g))[e]'(Nat.lt_trans hef hf) := by rw [List.getD_eq_getElem?_getD, List.getElem?_eq_getElem (Nat.lt_trans hef hf)]; rfl
  have g2 : (powL g q).getD f i0 = (fmP g q (gN g))[f]'hf := by rw [List.getD_eq_getElem?_getD, List.getElem?_eq_getElem hf]; rfl
  intro ⟨e1, e2⟩
  have e1 : gS (pwG g q (powL g q) (powL g q).length) e = gS (pwG g q (powL g q) (powL g q).length) f := e1
  have e2 : gL (pwG g q (powL g q) (powL g q).length) e = gL (pwG g q (powL g q) (powL g q).length) f := e2
  rw [h1.1, h2.1, g1, g2] at e1
  rw [h1.2.1, h2.2.1, g1, g2] at e2
  exact hp ⟨e1, e2⟩
