/-! locals that are known may be forgotten -/
theorem mx_gl_lt : ∀ {l : mx_Lo} {i : Nat} {v : Value}, mx_gl l i = some v → i < l.length
  | [], _, _, h => by simp [mx_gl] at h
  | _ :: _, 0, _, _ => by simp
  | _ :: r, i + 1, _, h => by
    have := mx_gl_lt (l := r) h
    simp only [List.length_cons]
    omega
theorem mx_gl_self : ∀ {l : mx_Lo} {i : Nat} {v : Value}, i < l.length → mx_gl (l.set i (some v)) i = some v
  | [], _, _, h => by simp at h
  | _ :: _, 0, _, _ => rfl
  | _ :: r, i + 1, _, h => mx_gl_self (l := r) (by simp only [List.length_cons] at h; omega)
theorem mx_gl_ne : ∀ {l : mx_Lo} {i j : Nat} {o : Option Value}, j ≠ i → mx_gl (l.set i o) j = mx_gl l j
  | [], _, _, _, _ => rfl
  | _ :: _, 0, 0, _, h => absurd rfl h
  | _ :: _, 0, _ + 1, _, _ => rfl
  | _ :: _, _ + 1, 0, _, _ => rfl
  | _ :: r, i + 1, j + 1, _, h => mx_gl_ne (l := r) (by omega)
def mx_le (l l' : mx_Lo) : Prop := l.length = l'.length ∧ ∀ i v, mx_gl l i = some v → mx_gl l' i = some v
theorem mx_le_set {l l' : mx_Lo} (h : mx_le l l') (i : Nat) (o : Option Value) : mx_le (l.set i o) (l'.set i o) := by
  refine ⟨by simp [h.1], fun j v hv => ?_⟩
  have hj := mx_gl_lt hv
  rw [List.length_set] at hj
  rcases mx_gl_set hv with ⟨e1, e2⟩ | ⟨e1, e2⟩
  · subst e1; subst e2
    exact mx_gl_self (by rw [← h.1]; exact hj)
  · rw [mx_gl_ne e1]
    exact h.2 j v e2
theorem mx_cp_len (l : mx_Lo) (i : Nat) : (mx_cp l i).length = l.length := by
  unfold mx_cp
  split
  · rfl
  · split <;> simp
theorem mx_cp_keep {l : mx_Lo} {i j : Nat} {v : Value} (h : mx_gl l j = some v) (hn : j + 1 = i → ¬ v.category = 2) : mx_gl (mx_cp l i) j = some v := by
  unfold mx_cp
  split
  · exact h
  · rename_i i'
    split
    · rename_i x hx
      by_cases e : j = i'
      · subst e
        rw [h] at hx
        cases hx
        exact absurd rfl (hn rfl)
      · rw [mx_gl_ne e]; exact h
    · rename_i x hx
      by_cases e : j = i'
      · subst e
        rw [h] at hx
        cases hx
        exact absurd rfl (hn rfl)
      · rw [mx_gl_ne e]; exact h
    · exact h
theorem mx_le_cp {l l' : mx_Lo} (h : mx_le l l') (i : Nat) : mx_le (mx_cp l i) (mx_cp l' i) := by
  refine ⟨by rw [mx_cp_len, mx_cp_len, h.1], fun j v hv => ?_⟩
  obtain ⟨e1, e2⟩ := mx_cp_x hv
  exact mx_cp_keep (h.2 j v e1) e2
theorem mx_gI_l {l l' : mx_Lo} {i : Nat} {k k' : Int32 → Prop} (hl : mx_le l l') (h : mx_gI l i k) (m : ∀ x, k x → k' x) : mx_gI l' i k' := by
  obtain ⟨x, hx, h⟩ := mx_gI_x h
  unfold mx_gI
  rw [hl.2 _ _ hx]
  exact m _ h
theorem mx_gL_l {l l' : mx_Lo} {i : Nat} {k k' : Int64 → Prop} (hl : mx_le l l') (h : mx_gL l i k) (m : ∀ x, k x → k' x) : mx_gL l' i k' := by
  obtain ⟨x, hx, h⟩ := mx_gL_x h
  unfold mx_gL
  rw [hl.2 _ _ hx]
  exact m _ h
theorem mx_gD_l {l l' : mx_Lo} {i : Nat} {k k' : UInt64 → Prop} (hl : mx_le l l') (h : mx_gD l i k) (m : ∀ x, k x → k' x) : mx_gD l' i k' := by
  obtain ⟨x, hx, h⟩ := mx_gD_x h
  unfold mx_gD
  rw [hl.2 _ _ hx]
  exact m _ h
theorem mx_gR_l {l l' : mx_Lo} {i : Nat} {k k' : Nat → Prop} (hl : mx_le l l') (h : mx_gR l i k) (m : ∀ x, k x → k' x) : mx_gR l' i k' := by
  obtain ⟨x, hx, h⟩ := mx_gR_x h
  unfold mx_gR
  rw [hl.2 _ _ hx]
  exact m _ h
set_option maxHeartbeats 4000000 in
theorem mx_step_l {lay : mx_Lay} {Ga : mx_Ga} {J J' : mx_J} {Q : mx_Po} {e : mx_E} {l l' : mx_Lo} {st : List Value} {w : mx_Wd} {K K' : mx_Kt} (hG : mx_mono Ga) (hl : mx_le l l') (hJ : ∀ L l l' st w, mx_le l l' → J L l st w → J' L l' st w) (hK : ∀ l l' st w, mx_le l l' → K l st w → K' l' st w) (h : mx_step lay Ga J Q e l st w K) : mx_step lay Ga J' Q e l' st w K' := by
  obtain ⟨ins, len, a, b, c, d, f⟩ := e
  cases ins with
  | nop => exact hJ _ _ _ _ _ hl h
  | iconst n => exact hK _ _ _ _ hl h
  | bipush n => exact hK _ _ _ _ hl h
  | sipush n => exact hK _ _ _ _ hl h
  | ldc n => exact hK _ _ _ _ hl h
  | ldc_w n => exact hK _ _ _ _ hl h
  | ldc2_w n =>
    match d, h with
    | 0, h => exact hK _ _ _ _ hl h
    | _ + 1, h => exact hK _ _ _ _ hl h
  | lconst n => exact hK _ _ _ _ hl h
  | dconst n =>
    match a, h with
    | 0, h => exact hK _ _ _ _ hl h
    | _ + 1, h => exact hK _ _ _ _ hl h
  | iload i => exact mx_gI_l hl h fun x h => hK _ _ _ _ hl h
  | iload_n i => exact mx_gI_l hl h fun x h => hK _ _ _ _ hl h
  | lload i => exact mx_gL_l hl h fun x h => hK _ _ _ _ hl h
  | lload_n i => exact mx_gL_l hl h fun x h => hK _ _ _ _ hl h
  | dload i => exact mx_gD_l hl h fun x h => hK _ _ _ _ hl h
  | dload_n i => exact mx_gD_l hl h fun x h => hK _ _ _ _ hl h
  | aload i => exact mx_gR_l hl h fun x h => hK _ _ _ _ hl h
  | aload_n i => exact mx_gR_l hl h fun x h => hK _ _ _ _ hl h
  | istore i => exact mx_pI_m h fun x r h => hK _ _ _ _ (mx_le_set (mx_le_cp hl _) _ _) h
  | istore_n i => exact mx_pI_m h fun x r h => hK _ _ _ _ (mx_le_set (mx_le_cp hl _) _ _) h
  | lstore i => exact mx_pL_m h fun x r h => hK _ _ _ _ (mx_le_set (mx_le_set (mx_le_cp hl _) _ _) _ _) h
  | lstore_n i => exact mx_pL_m h fun x r h => hK _ _ _ _ (mx_le_set (mx_le_set (mx_le_cp hl _) _ _) _ _) h
  | dstore i => exact mx_pD_m h fun x r h => hK _ _ _ _ (mx_le_set (mx_le_set (mx_le_cp hl _) _ _) _ _) h
  | dstore_n i => exact mx_pD_m h fun x r h => hK _ _ _ _ (mx_le_set (mx_le_set (mx_le_cp hl _) _ _) _ _) h
  | astore i => exact mx_pR_m h fun x r h => hK _ _ _ _ (mx_le_set (mx_le_cp hl _) _ _) h
  | astore_n i => exact mx_pR_m h fun x r h => hK _ _ _ _ (mx_le_set (mx_le_cp hl _) _ _) h
  | iinc i n => exact mx_gI_l hl h fun x h => hK _ _ _ _ (mx_le_set (mx_le_cp hl _) _ _) h
  | iadd => exact mx_pI_m h fun x r h => mx_pI_m h fun y r h => hK _ _ _ _ hl h
  | isub => exact mx_pI_m h fun x r h => mx_pI_m h fun y r h => hK _ _ _ _ hl h
  | imul => exact mx_pI_m h fun x r h => mx_pI_m h fun y r h => hK _ _ _ _ hl h
  | iand => exact mx_pI_m h fun x r h => mx_pI_m h fun y r h => hK _ _ _ _ hl h
  | ior => exact mx_pI_m h fun x r h => mx_pI_m h fun y r h => hK _ _ _ _ hl h
  | ishl => exact mx_pI_m h fun x r h => mx_pI_m h fun y r h => hK _ _ _ _ hl h
  | ishr => exact mx_pI_m h fun x r h => mx_pI_m h fun y r h => hK _ _ _ _ hl h
  | iushr => exact mx_pI_m h fun x r h => mx_pI_m h fun y r h => hK _ _ _ _ hl h
  | idiv => exact mx_pI_m h fun x r h => mx_pI_m h fun y r h => ⟨h.1, hK _ _ _ _ hl h.2⟩
  | irem => exact mx_pI_m h fun x r h => mx_pI_m h fun y r h => ⟨h.1, hK _ _ _ _ hl h.2⟩
  | i2l => exact mx_pI_m h fun x r h => hK _ _ _ _ hl h
  | ladd => exact mx_pL_m h fun x r h => mx_pL_m h fun y r h => hK _ _ _ _ hl h
  | lsub => exact mx_pL_m h fun x r h => mx_pL_m h fun y r h => hK _ _ _ _ hl h
  | lmul => exact mx_pL_m h fun x r h => mx_pL_m h fun y r h => hK _ _ _ _ hl h
  | lrem => exact mx_pL_m h fun x r h => mx_pL_m h fun y r h => ⟨h.1, hK _ _ _ _ hl h.2⟩
  | lor => exact mx_pL_m h fun x r h => mx_pL_m h fun y r h => hK _ _ _ _ hl h
  | lshl => exact mx_pI_m h fun x r h => mx_pL_m h fun y r h => hK _ _ _ _ hl h
  | lcmp => exact mx_pL_m h fun x r h => mx_pL_m h fun y r h => hK _ _ _ _ hl h
  | dadd => exact mx_pD_m h fun x r h => mx_pD_m h fun y r h => ⟨h.1, hK _ _ _ _ hl h.2⟩
  | dsub => exact mx_pD_m h fun x r h => mx_pD_m h fun y r h => ⟨h.1, hK _ _ _ _ hl h.2⟩
  | dmul => exact mx_pD_m h fun x r h => mx_pD_m h fun y r h => ⟨h.1, hK _ _ _ _ hl h.2⟩
  | ddiv => exact mx_pD_m h fun x r h => mx_pD_m h fun y r h => ⟨h.1, hK _ _ _ _ hl h.2⟩
  | dcmp op => exact mx_pD_m h fun x r h => mx_pD_m h fun y r h => hK _ _ _ _ hl h
  | d2l => exact mx_pD_m h fun x r h => hK _ _ _ _ hl h
  | dup =>
    have h : mx_p1 st fun v st => K l (v :: v :: st) w := h
    exact (mx_p1_m h fun x r h => hK _ _ _ _ hl h : mx_p1 st fun v st => K' l' (v :: v :: st) w)
  | dup2 =>
    have h : mx_p1 st fun v st => mx_p1 st fun u st => K l (v :: u :: v :: u :: st) w := h
    exact (mx_p1_m h fun x r h => mx_p1_m h fun y r h => hK _ _ _ _ hl h : mx_p1 st fun v st => mx_p1 st fun u st => K' l' (v :: u :: v :: u :: st) w)
  | pop =>
    have h : mx_p1 st fun _ st => K l st w := h
    exact (mx_p1_m h fun x r h => hK _ _ _ _ hl h : mx_p1 st fun _ st => K' l' st w)
  | goto o => exact hJ _ _ _ _ _ hl h
  | if_icmp cc o => exact mx_pI_m h fun x r h => mx_pI_m h fun y r h => ⟨fun q => hJ _ _ _ _ _ hl (h.1 q), fun q => hK _ _ _ _ hl (h.2 q)⟩
  | ifCond cc o => exact mx_pI_m h fun x r h => ⟨fun q => hJ _ _ _ _ _ hl (h.1 q), fun q => hK _ _ _ _ hl (h.2 q)⟩
  | tableswitch df lo hi os =>
    have h : mx_pI st fun x st => ((x.toInt < lo ∨ hi < x.toInt) → J ((a : Int) + df).toNat l st w) ∧ (¬ (x.toInt < lo ∨ hi < x.toInt) → ∃ o, os[(x.toInt - lo).toNat]? = some o ∧ J ((a : Int) + o).toNat l st w) := h
    exact (mx_pI_m h fun x r h => ⟨fun q => hJ _ _ _ _ _ hl (h.1 q), fun q => (h.2 q).elim fun o h2 => ⟨o, h2.1, hJ _ _ _ _ _ hl h2.2⟩⟩ : mx_pI st fun x st => ((x.toInt < lo ∨ hi < x.toInt) → J' ((a : Int) + df).toNat l' st w) ∧ (¬ (x.toInt < lo ∨ hi < x.toInt) → ∃ o, os[(x.toInt - lo).toNat]? = some o ∧ J' ((a : Int) + o).toNat l' st w))
  | getfield i => exact mx_pR_m h fun k r h => mx_wF_m h (fun x h => hK _ _ _ _ hl h) (fun h => hK _ _ _ _ hl h)
  | putfield i =>
    match d, h with
    | 0, h => exact mx_pI_m h fun x r h => mx_pR_m h fun k r h => mx_wF_m h (fun x h => h) (fun h => hK _ _ _ _ hl h)
    | _ + 1, h => exact mx_pI_m h fun x r h => mx_pR_m h fun k r h => mx_wF_m h (fun x h => h) (fun h => ⟨h.1, hK _ _ _ _ hl h.2⟩)
  | arraylength => exact mx_pR_m h fun k r h => mx_wO_m h fun x h => hK _ _ _ _ hl h
  | iaload => exact mx_pI_m h fun i r h => mx_pR_m h fun k r h => mx_wA_m h fun n h => ⟨h.1, hK _ _ _ _ hl h.2⟩
  | baload => exact mx_pI_m h fun i r h => mx_pR_m h fun k r h => mx_wA_m h fun n h => ⟨h.1, hK _ _ _ _ hl h.2⟩
  | laload => exact mx_pI_m h fun i r h => mx_pR_m h fun k r h => mx_wA_m h fun n h => ⟨h.1, hK _ _ _ _ hl h.2⟩
  | daload => exact mx_pI_m h fun i r h => mx_pR_m h fun k r h => mx_wA_m h fun n h => ⟨h.1, hK _ _ _ _ hl h.2⟩
  | aaload => exact mx_pI_m h fun i r h => mx_pR_m h fun k r h => mx_wR_m h fun n rs h => ⟨h.1, mx_wO_m h.2 fun x h => hK _ _ _ _ hl h⟩
  | iastore => exact mx_pI_m h fun x r h => mx_pI_m h fun i r h => mx_pR_m h fun k r h => mx_wA_m h fun n h => ⟨h.1, hK _ _ _ _ hl h.2⟩
  | bastore => exact mx_pI_m h fun x r h => mx_pI_m h fun i r h => mx_pR_m h fun k r h => mx_wA_m h fun n h => ⟨h.1, h.2.1, hK _ _ _ _ hl h.2.2⟩
  | lastore => exact mx_pL_m h fun x r h => mx_pI_m h fun i r h => mx_pR_m h fun k r h => mx_wA_m h fun n h => ⟨h.1, hK _ _ _ _ hl h.2⟩
  | dastore => exact mx_pD_m h fun x r h => mx_pI_m h fun i r h => mx_pR_m h fun k r h => mx_wA_m h fun n h => ⟨h.1, hK _ _ _ _ hl h.2⟩
  | invokevirtual i =>
    match d, h with
    | 0, h =>
      have h : mx_popn st b fun as rest => mx_rcv lay 0 f as ∧ Ga a as w fun v w' => K l (mx_ov v rest) w' := h
      exact (mx_popn_m h fun as r h => ⟨h.1, hG _ _ _ _ _ (fun v w h => hK _ _ _ _ hl h) h.2⟩ : mx_popn st b fun as rest => mx_rcv lay 0 f as ∧ Ga a as w fun v w' => K' l' (mx_ov v rest) w')
    | 1, h => exact h.elim
    | 2, h => exact h.elim
    | 3, h => exact h.elim
    | _ + 4, h => exact h.elim
  | invokestatic i =>
    match d, h with
    | 0, h => exact h.elim
    | 1, h =>
      have h : mx_popn st b fun as rest => Ga a as w fun v w' => K l (mx_ov v rest) w' := h
      exact (mx_popn_m h fun as r h => hG _ _ _ _ _ (fun v w h => hK _ _ _ _ hl h) h : mx_popn st b fun as rest => Ga a as w fun v w' => K' l' (mx_ov v rest) w')
    | 2, h => exact mx_pI_m h fun n r h => mx_pI_m h fun dp r h => mx_pR_m h fun k1 r h => mx_pI_m h fun sp r h => mx_pR_m h fun k0 r h => mx_wA_m h fun n0 h => mx_wA_m h fun n1 h => ⟨h.1, h.2.1, h.2.2.1, h.2.2.2.1, h.2.2.2.2.1, h.2.2.2.2.2.1, hK _ _ _ _ hl h.2.2.2.2.2.2⟩
    | 3, h => exact h.elim
    | 4, h => exact h.elim
    | 5, h => exact h.elim
    | 6, h => exact mx_pI_m h fun y r h => mx_pI_m h fun x r h => ⟨h.1, hK _ _ _ _ hl h.2⟩
    | 7, h => exact mx_pI_m h fun y r h => mx_pI_m h fun x r h => ⟨h.1, hK _ _ _ _ hl h.2⟩
    | 8, h => exact mx_pL_m h fun y r h => mx_pL_m h fun x r h => ⟨h.1, hK _ _ _ _ hl h.2⟩
    | _ + 9, h => exact h.elim
  | ireturn =>
    match d, h with
    | 0, h => exact mx_pI_m h fun x r h => mx_nil_m h fun h => h
    | _ + 1, h => exact mx_pI_m h fun x r h => mx_nil_m h fun h => ⟨h.1, h.2⟩
  | lreturn => exact mx_pL_m h fun x r h => mx_nil_m h fun h => h
  | areturn => exact mx_pR_m h fun x r h => mx_nil_m h fun h => h
  | dreturn => exact mx_pD_m h fun x r h => mx_nil_m h fun h => h
  | return_ => exact mx_nil_m h fun h => h
  | _ => exact h.elim
theorem mx_run_l {lay : mx_Lay} {Ga : mx_Ga} {J J' : mx_J} {Q : mx_Po} (hG : mx_mono Ga) (hJ : ∀ L l l' st w, mx_le l l' → J L l st w → J' L l' st w) : ∀ (es : List mx_E) (l l' : mx_Lo) (st : List Value) (w : mx_Wd), mx_le l l' → mx_run lay Ga J Q es l st w → mx_run lay Ga J' Q es l' st w
  | [], _, _, _, _, _, h => h
  | _ :: es, _, _, _, _, hl, h => mx_step_l hG hl hJ (fun l l' st w hl h => mx_run_l hG hJ es l l' st w hl h) h
/-- fewer locals known, the more is shown -/
theorem mx_wl_l {lay : mx_Lay} {Ga : mx_Ga} {bs : List (Nat × List mx_E)} {Q : mx_Po} (hG : mx_mono Ga) {L : Nat} {l l' : mx_Lo} {st : List Value} {w : mx_Wd} (h : mx_wl lay Ga bs Q L l st w) (hl : mx_le l l') : mx_wl lay Ga bs Q L l' st w := by
  have h2 := h (fun L l st w => ∀ l', mx_le l l' → mx_wl lay Ga bs Q L l' st w) fun L l st w h l' hl => mx_wl_in hG (mx_run_l (J' := mx_wl lay Ga bs Q) hG (fun L l l' st w hl h => h l' hl) _ l l' st w hl h)
  exact h2 l' hl
