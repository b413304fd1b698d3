/-! the power of a graph: ways of q edges, in order -/
abbrev aI : Type := Nat × Nat × Nat
def i0 : aI := (0, 0, 0)
def pc (g : aG) : Nat → Nat → Nat
  | 0, _ => 1
  | t + 1, s => fb_sm (fun e => if gS g e = s then pc g t (gE g e) else 0) (gM g)
def tot (g : aG) (q : Nat) : Nat := fb_sm (pc g q) (gN g)
/-- a way with one edge more -/
def nxI (g : aG) (i : aI) (e : Nat) : aI := (i.1, i.2.1 * 2 ^ gB g ||| gL g e, gE g e)
def nxC (g : aG) (t : Nat) (i : aI) (e : Nat) : Bool := gS g e == i.2.2 && decide (0 < pc g t (gE g e))
def nxP (g : aG) (t : Nat) (i : aI) : Nat → List aI
  | 0 => []
  | n + 1 => if nxC g t i n then nxP g t i n ++ [nxI g i n] else nxP g t i n
def wk (g : aG) : Nat → aI → List aI
  | 0, i => [i]
  | t + 1, i => (nxP g t i (gM g)).flatMap (wk g t)
def extP (g : aG) (t : Nat) (l : List aI) : Nat → List aI
  | 0 => []
  | n + 1 => extP g t l n ++ nxP g t (l.getD n i0) (gM g)
def l0P (g : aG) (q : Nat) : Nat → List aI
  | 0 => []
  | s + 1 => if 0 < pc g q s then l0P g q s ++ [(s, 0, s)] else l0P g q s
def fmP (g : aG) (q : Nat) : Nat → List aI
  | 0 => []
  | s + 1 => fmP g q s ++ wk g q (s, 0, s)
def pwG (g : aG) (q : Nat) (l : List aI) : Nat → aG
  | 0 => (gN g, 0, gB g * q, fun _ => 0, fun _ => 0, fun _ => 0)
  | n + 1 => gAdd (pwG g q l n) (l.getD n i0).1 (l.getD n i0).2.1 (l.getD n i0).2.2
def powL (g : aG) (q : Nat) : List aI := fmP g q (gN g)
def powG (g : aG) (q : Nat) : aG := pwG g q (powL g q) (powL g q).length
theorem nxP_s (g : aG) (t : Nat) (i : aI) (n : Nat) : nxP g t i (n + 1) = if nxC g t i n then nxP g t i n ++ [nxI g i n] else nxP g t i n := rfl
theorem getD_lt {l l' : List aI} {i : Nat} (h : i < l.length) : (l ++ l').getD i i0 = l.getD i i0 := by
  simp [List.getD, List.getElem?_append, h]
theorem getD_eq {l : List aI} {x : aI} {i : Nat} (h : i = l.length) : (l ++ [x]).getD i i0 = x := by
  subst h
  simp [List.getD]
theorem len_nx {g : aG} {t : Nat} (ih : ∀ i, (wk g t i).length = pc g t i.2.2) (i : aI) : ∀ n, ((nxP g t i n).flatMap (wk g t)).length = fb_sm (fun e => if gS g e = i.2.2 then pc g t (gE g e) else 0) n
  | 0 => rfl
  | n + 1 => by
    rw [nxP_s, fb_sm_succ, ← len_nx ih i n]
    cases c : nxC g t i n
    · rw [if_neg (by decide)]
      unfold nxC at c
      by_cases h : gS g n = i.2.2
      · rw [if_pos h]
        rw [h, beq_self_eq_true, Bool.true_and, decide_eq_false_iff_not] at c
        omega
      · rw [if_neg h]
        rfl
    · rw [if_pos rfl, List.flatMap_append, List.length_append]
      unfold nxC at c
      rw [Bool.and_eq_true, beq_iff_eq] at c
      rw [if_pos c.1]
      congr 1
      show ((nxI g i n :: []).flatMap (wk g t)).length = _
      rw [List.flatMap_cons, List.flatMap_nil, List.append_nil, ih]
      rfl
theorem len_wk (g : aG) : ∀ t i, (wk g t i).length = pc g t i.2.2
  | 0, _ => rfl
  | t + 1, i => len_nx (len_wk g t) i (gM g)
theorem len_fm (g : aG) (q : Nat) : ∀ s, (fmP g q s).length = fb_sm (pc g q) s
  | 0 => rfl
  | s + 1 => by
    show (fmP g q s ++ wk g q (s, 0, s)).length = _
    rw [List.length_append, len_fm g q s, len_wk, fb_sm_succ]
theorem len_pow (g : aG) (q : Nat) : (powL g q).length = tot g q := len_fm g q (gN g)
/-- breadth first and depth first list the same -/
theorem l0_fm (g : aG) (q : Nat) : ∀ s, (l0P g q s).flatMap (wk g q) = fmP g q s
  | 0 => rfl
  | s + 1 => by
    show (if 0 < pc g q s then l0P g q s ++ [(s, 0, s)] else l0P g q s).flatMap (wk g q) = fmP g q s ++ wk g q (s, 0, s)
    by_cases c : 0 < pc g q s
    · rw [if_pos c, List.flatMap_append, l0_fm g q s, List.flatMap_cons, List.flatMap_nil, List.append_nil]
    · rw [if_neg c, l0_fm g q s, List.eq_nil_of_length_eq_zero (l := wk g q (s, 0, s)) (by rw [len_wk]; show pc g q s = 0; omega), List.append_nil]
theorem ext_take (g : aG) (t : Nat) (l : List aI) : ∀ n, n ≤ l.length → extP g t l n = (l.take n).flatMap fun i => nxP g t i (gM g)
  | 0, _ => by rw [List.take_zero]; rfl
  | n + 1, h => by
    show extP g t l n ++ _ = _
    rw [ext_take g t l n (by omega), List.take_succ, List.flatMap_append]
    congr 1
    rw [List.getD_eq_getElem?_getD, List.getElem?_eq_getElem (show n < l.length from h)]
    show _ = ([l[n]] : List aI).flatMap _
    rw [List.flatMap_cons, List.flatMap_nil, List.append_nil]
    rfl
theorem ext_wk (g : aG) (t : Nat) (l : List aI) : (extP g t l l.length).flatMap (wk g t) = l.flatMap (wk g (t + 1)) := by
  rw [ext_take g t l _ (Nat.le_refl _), List.take_length, List.flatMap_assoc]
  rfl
theorem fl_wk0 (g : aG) : ∀ (l : List aI), l.flatMap (wk g 0) = l
  | [] => rfl
  | x :: l => by
    rw [List.flatMap_cons, fl_wk0 g l]
    rfl
/-- what a list holds; how many ways it stands for -/
def wt (g : aG) (t : Nat) (l : List aI) : Nat := fb_sm (fun k => pc g t (l.getD k i0).2.2) l.length
def lI (g : aG) (t j : Nat) (l : List aI) : Prop := ∀ k, k < l.length → (l.getD k i0).1 < gN g ∧ (l.getD k i0).2.1 < 2 ^ (gB g * j) ∧ (l.getD k i0).2.2 < gN g ∧ 0 < pc g t (l.getD k i0).2.2
theorem wt_app {g : aG} {t : Nat} {l : List aI} {x : aI} : wt g t (l ++ [x]) = wt g t l + pc g t x.2.2 := by
  unfold wt
  rw [List.length_append, show [x].length = 1 from rfl, fb_sm_succ, getD_eq rfl, fb_sm_cong fun k hk => ?_]
  rw [getD_lt hk]
theorem lI_app {g : aG} {t j : Nat} {l : List aI} {x : aI} (h : lI g t j l) (hx : x.1 < gN g ∧ x.2.1 < 2 ^ (gB g * j) ∧ x.2.2 < gN g ∧ 0 < pc g t x.2.2) : lI g t j (l ++ [x]) := by
  intro k hk
  rw [List.length_append, show [x].length = 1 from rfl] at hk
  by_cases c : k < l.length
  · rw [getD_lt c]
    exact h k c
  · rw [getD_eq (by omega)]
    exact hx
theorem lI_0 {g : aG} {t j : Nat} : lI g t j [] := fun k hk => absurd hk (Nat.not_lt_zero k)
theorem lI_len {g : aG} {t j : Nat} {l : List aI} (h : lI g t j l) : l.length ≤ wt g t l := by
  have := fb_sm_le (f := fun _ => 1) (g := fun k => pc g t (l.getD k i0).2.2) (n := l.length) fun k hk => (h k hk).2.2.2
  rw [fb_sm_const] at this
  unfold wt
  omega
theorem nxI_v {g : aG} (v : vG g) {t j e : Nat} {i : aI} (h1 : i.1 < gN g) (h2 : i.2.1 < 2 ^ (gB g * j)) (he : e < gM g) (hc : nxC g t i e = true) : (nxI g i e).1 < gN g ∧ (nxI g i e).2.1 < 2 ^ (gB g * (j + 1)) ∧ (nxI g i e).2.2 < gN g ∧ 0 < pc g t (nxI g i e).2.2 := by
  have hv := v.e he
  unfold nxC at hc
  rw [Bool.and_eq_true, decide_eq_true_eq] at hc
  refine ⟨h1, ?_, hv.2.2, hc.2⟩
  show i.2.1 * 2 ^ gB g ||| gL g e < 2 ^ (gB g * (j + 1))
  rw [Nat.mul_succ]
  refine Nat.or_lt_two_pow ?_ (Nat.lt_of_lt_of_le hv.2.1 (Nat.pow_le_pow_right (by omega) (by omega)))
  rw [Nat.pow_add]
  exact Nat.mul_lt_mul_of_pos_right h2 (Nat.two_pow_pos _)
/-- extending: what has been appended -/
def exL (g : aG) (t : Nat) (l : List aI) (n m : Nat) : List aI := extP g t l n ++ nxP g t (l.getD n i0) m
theorem exL_s (g : aG) (t : Nat) (l : List aI) (n m : Nat) : exL g t l n (m + 1) = if nxC g t (l.getD n i0) m then exL g t l n m ++ [nxI g (l.getD n i0) m] else exL g t l n m := by
  unfold exL
  rw [nxP_s]
  split
  · rw [List.append_assoc]
  · rfl
theorem exL_n (g : aG) (t : Nat) (l : List aI) (n : Nat) : exL g t l n (gM g) = exL g t l (n + 1) 0 := by
  unfold exL
  show extP g t l n ++ nxP g t (l.getD n i0) (gM g) = (extP g t l n ++ nxP g t (l.getD n i0) (gM g)) ++ []
  rw [List.append_nil]
theorem exL_i {g : aG} (v : vG g) {t j : Nat} {l : List aI} (h : lI g (t + 1) j l) : ∀ n, n < l.length → ∀ m, m ≤ gM g → lI g t (j + 1) (exL g t l n 0) → lI g t (j + 1) (exL g t l n m)
  | n, hn, 0, _, q => q
  | n, hn, m + 1, hm, q => by
    have ih := exL_i v h n hn m (by omega) q
    rw [exL_s]
    split
    · rename_i c
      have := h n hn
      exact lI_app ih (nxI_v v this.1 this.2.1 hm c)
    · exact ih
theorem exL_i0 {g : aG} (v : vG g) {t j : Nat} {l : List aI} (h : lI g (t + 1) j l) : ∀ n, n ≤ l.length → lI g t (j + 1) (exL g t l n 0)
  | 0, _ => lI_0
  | n + 1, hn => by
    rw [← exL_n]
    exact exL_i v h n hn (gM g) (Nat.le_refl _) (exL_i0 v h n (by omega))
theorem exL_w {g : aG} {t : Nat} {l : List aI} (n : Nat) : ∀ m, wt g t (exL g t l n m) = wt g t (exL g t l n 0) + fb_sm (fun e => if gS g e = (l.getD n i0).2.2 then pc g t (gE g e) else 0) m
  | 0 => rfl
  | m + 1 => by
    rw [exL_s, fb_sm_succ]
    cases c : nxC g t (l.getD n i0) m
    · rw [if_neg (by decide), exL_w n m]
      unfold nxC at c
      by_cases h : gS g m = (l.getD n i0).2.2
      · rw [if_pos h]
        rw [h, beq_self_eq_true, Bool.true_and, decide_eq_false_iff_not] at c
        omega
      · rw [if_neg h]
        rfl
    · rw [if_pos rfl, wt_app, exL_w n m]
      unfold nxC at c
      rw [Bool.and_eq_true, beq_iff_eq] at c
      rw [if_pos c.1]
      show _ + pc g t (gE g m) = _
      omega
theorem exL_w0 {g : aG} {t : Nat} {l : List aI} : ∀ n, wt g t (exL g t l n 0) = fb_sm (fun k => pc g (t + 1) (l.getD k i0).2.2) n
  | 0 => rfl
  | n + 1 => by
    rw [← exL_n, exL_w, exL_w0 n, fb_sm_succ]
    rfl
theorem exL_len {g : aG} (v : vG g) {t j n m : Nat} {l : List aI} (h : lI g (t + 1) j l) (hn : n < l.length) (hm : m ≤ gM g) : (exL g t l n m).length ≤ wt g (t + 1) l := by
  have h1 := lI_len (exL_i v h n hn m hm (exL_i0 v h n (by omega)))
  have h2 := exL_w (g := g) (t := t) (l := l) n m
  have h3 := exL_w0 (g := g) (t := t) (l := l) n
  have h4 : fb_sm (fun e => if gS g e = (l.getD n i0).2.2 then pc g t (gE g e) else 0) m ≤ pc g (t + 1) (l.getD n i0).2.2 := by
    have := fb_sm_mono (fun e => if gS g e = (l.getD n i0).2.2 then pc g t (gE g e) else 0) m (gM g - m)
    rwa [Nat.add_sub_cancel' hm] at this
  have h5 := fb_sm_part (fun k => pc g (t + 1) (l.getD k i0).2.2) hn
  unfold wt at *
  omega
theorem l0_i {g : aG} {q : Nat} : ∀ {s : Nat}, s ≤ gN g → lI g q 0 (l0P g q s) ∧ wt g q (l0P g q s) = fb_sm (pc g q) s
  | 0, _ => ⟨lI_0, rfl⟩
  | s + 1, h => by
    obtain ⟨h1, h2⟩ := l0_i (g := g) (q := q) (s := s) (by omega)
    show lI g q 0 (if 0 < pc g q s then l0P g q s ++ [(s, 0, s)] else l0P g q s) ∧ wt g q (if 0 < pc g q s then l0P g q s ++ [(s, 0, s)] else l0P g q s) = _
    rw [fb_sm_succ]
    by_cases c : 0 < pc g q s
    · rw [if_pos c]
      exact ⟨lI_app h1 ⟨h, Nat.two_pow_pos _, h, c⟩, by rw [wt_app, h2]⟩
    · rw [if_neg c]
      exact ⟨h1, by rw [h2]; omega⟩
theorem pwG_f {g : aG} {q : Nat} {l : List aI} : ∀ n, gN (pwG g q l n) = gN g ∧ gM (pwG g q l n) = n ∧ gB (pwG g q l n) = gB g * q
  | 0 => ⟨rfl, rfl, rfl⟩
  | n + 1 => by
    obtain ⟨h1, h2, h3⟩ := pwG_f (g := g) (q := q) (l := l) n
    exact ⟨h1, by show gM (pwG g q l n) + 1 = _; omega, h3⟩
theorem pwG_app {g : aG} {q : Nat} {l l' : List aI} : ∀ n, n ≤ l.length → pwG g q (l ++ l') n = pwG g q l n
  | 0, _ => rfl
  | n + 1, h => by
    show gAdd (pwG g q (l ++ l') n) _ _ _ = gAdd (pwG g q l n) _ _ _
    rw [pwG_app n (by omega), getD_lt h]
theorem pwG_1 {g : aG} {q : Nat} {l : List aI} {x : aI} : pwG g q (l ++ [x]) (l ++ [x]).length = gAdd (pwG g q l l.length) x.1 x.2.1 x.2.2 := by
  rw [List.length_append, show [x].length = 1 from rfl]
  show gAdd (pwG g q (l ++ [x]) l.length) _ _ _ = _
  rw [pwG_app _ (Nat.le_refl _), getD_eq rfl]
theorem pwG_v {g : aG} (v : vG g) {q : Nat} {l : List aI} (h1 : 1 ≤ gB g * q) (h4 : gB g * q ≤ 4) (hl : lI g 0 q l) (h64 : l.length ≤ 64) : ∀ n, n ≤ l.length → vG (pwG g q l n)
  | 0, _ => ⟨v.1, Nat.zero_le _, h1, h4, fun e he => absurd he (Nat.not_lt_zero e)⟩
  | n + 1, hn => by
    obtain ⟨f1, f2, f3⟩ := pwG_f (g := g) (q := q) (l := l) n
    have := hl n hn
    refine gAdd_v (pwG_v v h1 h4 hl h64 n (by omega)) (by omega) ?_ ?_ ?_
    · rw [f1]; exact this.1
    · rw [f3]; exact this.2.1
    · rw [f1]; exact this.2.2.1
theorem pc_le {g : aG} (v : vG g) : ∀ t s, pc g t s ≤ 64 ^ t
  | 0, _ => Nat.le_refl _
  | t + 1, s => by
    have hm := v.2.1
    show fb_sm _ (gM g) ≤ 64 ^ (t + 1)
    refine Nat.le_trans (fb_sm_bound (c := 64 ^ t) fun e _ => ?_) ?_
    · split
      · exact pc_le v t _
      · exact Nat.zero_le _
    · rw [Nat.pow_succ, Nat.mul_comm]
      exact Nat.mul_le_mul_left _ hm
def oPow (a : aS) (x : Int32) : aR := if 1 ≤ x.toInt ∧ x.toInt ≤ 4 ∧ gB a.1 * x.toNatClampNeg ≤ 4 then (if tot a.1 x.toNatClampNeg ≤ 64 then (nI (tot a.1 x.toNatClampNeg), sGr a (powG a.1 x.toNatClampNeg)) else oErr 4 a) else oErr 3 a
