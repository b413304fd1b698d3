/-! a call that holds in a layout holds in a longer one, and leaves what is behind alone -/
def mx_kpx (n : Nat) (w w' : mx_Wd) : Prop := ∀ k, n ≤ k → (∀ j, mx_F w' k j = mx_F w k j) ∧ mx_A w' k = mx_A w k ∧ mx_L w' k = mx_L w k ∧ mx_D w' k = mx_D w k
theorem mx_kpx.rf {n : Nat} {w : mx_Wd} : mx_kpx n w w := fun _ _ => ⟨fun _ => rfl, rfl, rfl, rfl⟩
theorem mx_kpx.tr {n : Nat} {w w1 w2 : mx_Wd} (h : mx_kpx n w w1) (h' : mx_kpx n w1 w2) : mx_kpx n w w2 := fun k hk => ⟨fun j => ((h' k hk).1 j).trans ((h k hk).1 j), (h' k hk).2.1.trans (h k hk).2.1, (h' k hk).2.2.1.trans (h k hk).2.2.1, (h' k hk).2.2.2.trans (h k hk).2.2.2⟩
theorem mx_kpx.sF {n k j : Nat} {w w1 : mx_Wd} {x : Int32} (h : mx_kpx n w w1) (hk : k < n) : mx_kpx n w (mx_sF w1 k j x) := h.tr fun i hi => ⟨fun j' => by
  show (if i = k ∧ j' = j then x else w1.1 i j') = w1.1 i j'
  rw [if_neg (by omega)], rfl, rfl, rfl⟩
theorem mx_kpx.sA {n k : Nat} {w w1 : mx_Wd} {f : Nat → Int32} (h : mx_kpx n w w1) (hk : k < n) : mx_kpx n w (mx_sA w1 k f) := h.tr fun i hi => ⟨fun _ => rfl, by
  show (if i = k then f else w1.2.1 i) = w1.2.1 i
  rw [if_neg (by omega)], rfl, rfl⟩
theorem mx_kpx.sL {n k : Nat} {w w1 : mx_Wd} {f : Nat → Int64} (h : mx_kpx n w w1) (hk : k < n) : mx_kpx n w (mx_sL w1 k f) := h.tr fun i hi => ⟨fun _ => rfl, rfl, by
  show (if i = k then f else w1.2.2.1 i) = w1.2.2.1 i
  rw [if_neg (by omega)], rfl⟩
theorem mx_kpx.sD {n k : Nat} {w w1 : mx_Wd} {f : Nat → UInt64} (h : mx_kpx n w w1) (hk : k < n) : mx_kpx n w (mx_sD w1 k f) := h.tr fun i hi => ⟨fun _ => rfl, rfl, rfl, by
  show (if i = k then f else w1.2.2.2 i) = w1.2.2.2 i
  rw [if_neg (by omega)]⟩
section MXE
variable {lay X : mx_Lay}
theorem mx_at_e {k : Nat} {c} (h : lay[k]? = some c) : (lay ++ X)[k]? = some c ∧ k < lay.length := by
  have hk := (List.getElem?_eq_some_iff.mp h).1
  exact ⟨by rw [List.getElem?_append_left hk]; exact h, hk⟩
theorem mx_arr_e {k : Nat} {q : Nat × Nat × List Nat} (h : mx_arr lay k = some q) : mx_arr (lay ++ X) k = some q ∧ k < lay.length := by
  obtain ⟨h1, h2⟩ := mx_at_e (X := X) (mx_arr_x h)
  exact ⟨by unfold mx_arr; rw [h1], h2⟩
theorem mx_wA_e {k kd : Nat} {P P' : Nat → Prop} (h : mx_wA (mx_arr lay k) kd P) (m : k < lay.length → ∀ n, P n → P' n) : mx_wA (mx_arr (lay ++ X) k) kd P' := by
  cases q : mx_arr lay k with
  | none => rw [q] at h; exact h.elim
  | some z =>
    obtain ⟨h1, h2⟩ := mx_arr_e (X := X) q
    rw [q] at h
    rw [h1]
    exact ⟨h.1, m h2 _ h.2⟩
theorem mx_wR_e {k : Nat} {P P' : Nat → List Nat → Prop} (h : mx_wR (mx_arr lay k) P) (m : ∀ n r, P n r → P' n r) : mx_wR (mx_arr (lay ++ X) k) P' := by
  cases q : mx_arr lay k with
  | none => rw [q] at h; exact h.elim
  | some z =>
    obtain ⟨h1, h2⟩ := mx_arr_e (X := X) q
    rw [q] at h
    rw [h1]
    exact ⟨h.1, m _ _ h.2⟩
theorem mx_wL_e {k : Nat} {P P' : Nat → Prop} (h : mx_wO ((mx_arr lay k).map fun q => q.2.1) P) (m : ∀ n, P n → P' n) : mx_wO ((mx_arr (lay ++ X) k).map fun q => q.2.1) P' := by
  cases q : mx_arr lay k with
  | none => rw [q] at h; exact h.elim
  | some z =>
    obtain ⟨h1, h2⟩ := mx_arr_e (X := X) q
    rw [q] at h
    rw [h1]
    exact m _ h
theorem mx_wF_e {k a b : Nat} {kr kr' : Nat → Prop} {ki ki' : Prop} (h : mx_wF (mx_fld lay k a b) kr ki) (m : ∀ x, kr x → kr' x) (mi : k < lay.length → ki → ki') : mx_wF (mx_fld (lay ++ X) k a b) kr' ki' := by
  unfold mx_fld at h ⊢
  cases q : lay[k]? with
  | none => rw [q] at h; exact h.elim
  | some z =>
    obtain ⟨h1, h2⟩ := mx_at_e (X := X) q
    rw [q] at h
    rw [h1]
    exact mx_wF_m h m (mi h2)
theorem mx_rcv_e {d ci : Nat} {as : List Value} (h : mx_rcv lay d ci as) : mx_rcv (lay ++ X) d ci as := by
  unfold mx_rcv at h ⊢
  split at h
  · split at h
    · rename_i k r
      unfold mx_isO at h ⊢
      cases q : lay[k]? with
      | none => rw [q] at h; cases h
      | some z =>
        rw [q] at h
        rw [(mx_at_e (X := X) q).1]
        exact h
    · exact h.elim
  · exact h
set_option maxHeartbeats 4000000 in
theorem mx_step_e {Ga Ga' : mx_Ga} {J J' : mx_J} {Q Q' : mx_Po} {e : mx_E} {l : mx_Lo} {st : List Value} {w0 w : mx_Wd} {K K' : mx_Kt} (h0 : mx_kpx lay.length w0 w) (hG : ∀ (id : Nat) (as : List Value) (w : mx_Wd) (P P' : mx_Po), mx_kpx lay.length w0 w → (∀ v w', mx_kpx lay.length w0 w' → P v w' → P' v w') → Ga id as w P → Ga' id as w P') (hJ : ∀ L l st w, mx_kpx lay.length w0 w → J L l st w → J' L l st w) (hQ : ∀ v w, mx_kpx lay.length w0 w → Q v w → Q' v w) (hK : ∀ l st w, mx_kpx lay.length w0 w → K l st w → K' l st w) (h : mx_step lay Ga J Q e l st w K) : mx_step (lay ++ X) Ga' J' Q' e l st w K' := by
  obtain ⟨ins, len, a, b, c, d, f⟩ := e
  cases ins with
  | nop => exact hJ _ _ _ _ h0 h
  | iconst n => exact hK _ _ _ h0 h
  | bipush n => exact hK _ _ _ h0 h
  | sipush n => exact hK _ _ _ h0 h
  | ldc n => exact hK _ _ _ h0 h
  | ldc_w n => exact hK _ _ _ h0 h
  | ldc2_w n =>
    match d, h with
    | 0, h => exact hK _ _ _ h0 h
    | _ + 1, h => exact hK _ _ _ h0 h
  | lconst n => exact hK _ _ _ h0 h
  | dconst n =>
    match a, h with
    | 0, h => exact hK _ _ _ h0 h
    | _ + 1, h => exact hK _ _ _ h0 h
  | iload i => exact mx_gI_m h fun x h => hK _ _ _ h0 h
  | iload_n i => exact mx_gI_m h fun x h => hK _ _ _ h0 h
  | lload i => exact mx_gL_m h fun x h => hK _ _ _ h0 h
  | lload_n i => exact mx_gL_m h fun x h => hK _ _ _ h0 h
  | dload i => exact mx_gD_m h fun x h => hK _ _ _ h0 h
  | dload_n i => exact mx_gD_m h fun x h => hK _ _ _ h0 h
  | aload i => exact mx_gR_m h fun x h => hK _ _ _ h0 h
  | aload_n i => exact mx_gR_m h fun x h => hK _ _ _ h0 h
  | istore i => exact mx_pI_m h fun x r h => hK _ _ _ h0 h
  | istore_n i => exact mx_pI_m h fun x r h => hK _ _ _ h0 h
  | lstore i => exact mx_pL_m h fun x r h => hK _ _ _ h0 h
  | lstore_n i => exact mx_pL_m h fun x r h => hK _ _ _ h0 h
  | dstore i => exact mx_pD_m h fun x r h => hK _ _ _ h0 h
  | dstore_n i => exact mx_pD_m h fun x r h => hK _ _ _ h0 h
  | astore i => exact mx_pR_m h fun x r h => hK _ _ _ h0 h
  | astore_n i => exact mx_pR_m h fun x r h => hK _ _ _ h0 h
  | iinc i n => exact mx_gI_m h fun x h => hK _ _ _ h0 h
  | iadd => exact mx_pI_m h fun x r h => mx_pI_m h fun y r h => hK _ _ _ h0 h
  | isub => exact mx_pI_m h fun x r h => mx_pI_m h fun y r h => hK _ _ _ h0 h
  | imul => exact mx_pI_m h fun x r h => mx_pI_m h fun y r h => hK _ _ _ h0 h
  | iand => exact mx_pI_m h fun x r h => mx_pI_m h fun y r h => hK _ _ _ h0 h
  | ior => exact mx_pI_m h fun x r h => mx_pI_m h fun y r h => hK _ _ _ h0 h
  | ishl => exact mx_pI_m h fun x r h => mx_pI_m h fun y r h => hK _ _ _ h0 h
  | ishr => exact mx_pI_m h fun x r h => mx_pI_m h fun y r h => hK _ _ _ h0 h
  | iushr => exact mx_pI_m h fun x r h => mx_pI_m h fun y r h => hK _ _ _ h0 h
  | idiv => exact mx_pI_m h fun x r h => mx_pI_m h fun y r h => ⟨h.1, hK _ _ _ h0 h.2⟩
  | irem => exact mx_pI_m h fun x r h => mx_pI_m h fun y r h => ⟨h.1, hK _ _ _ h0 h.2⟩
  | i2l => exact mx_pI_m h fun x r h => hK _ _ _ h0 h
  | ladd => exact mx_pL_m h fun x r h => mx_pL_m h fun y r h => hK _ _ _ h0 h
  | lsub => exact mx_pL_m h fun x r h => mx_pL_m h fun y r h => hK _ _ _ h0 h
  | lmul => exact mx_pL_m h fun x r h => mx_pL_m h fun y r h => hK _ _ _ h0 h
  | lrem => exact mx_pL_m h fun x r h => mx_pL_m h fun y r h => ⟨h.1, hK _ _ _ h0 h.2⟩
  | lor => exact mx_pL_m h fun x r h => mx_pL_m h fun y r h => hK _ _ _ h0 h
  | lshl => exact mx_pI_m h fun x r h => mx_pL_m h fun y r h => hK _ _ _ h0 h
  | lcmp => exact mx_pL_m h fun x r h => mx_pL_m h fun y r h => hK _ _ _ h0 h
  | dadd => exact mx_pD_m h fun x r h => mx_pD_m h fun y r h => ⟨h.1, hK _ _ _ h0 h.2⟩
  | dsub => exact mx_pD_m h fun x r h => mx_pD_m h fun y r h => ⟨h.1, hK _ _ _ h0 h.2⟩
  | dmul => exact mx_pD_m h fun x r h => mx_pD_m h fun y r h => ⟨h.1, hK _ _ _ h0 h.2⟩
  | ddiv => exact mx_pD_m h fun x r h => mx_pD_m h fun y r h => ⟨h.1, hK _ _ _ h0 h.2⟩
  | dcmp op => exact mx_pD_m h fun x r h => mx_pD_m h fun y r h => hK _ _ _ h0 h
  | d2l => exact mx_pD_m h fun x r h => hK _ _ _ h0 h
  | dup =>
    have h : mx_p1 st fun v st => K l (v :: v :: st) w := h
    exact (mx_p1_m h fun x r h => hK _ _ _ h0 h : mx_p1 st fun v st => K' l (v :: v :: st) w)
  | dup2 =>
    have h : mx_p1 st fun v st => mx_p1 st fun u st => K l (v :: u :: v :: u :: st) w := h
    exact (mx_p1_m h fun x r h => mx_p1_m h fun y r h => hK _ _ _ h0 h : mx_p1 st fun v st => mx_p1 st fun u st => K' l (v :: u :: v :: u :: st) w)
  | pop =>
    have h : mx_p1 st fun _ st => K l st w := h
    exact (mx_p1_m h fun x r h => hK _ _ _ h0 h : mx_p1 st fun _ st => K' l st w)
  | goto o => exact hJ _ _ _ _ h0 h
  | if_icmp cc o => exact mx_pI_m h fun x r h => mx_pI_m h fun y r h => ⟨fun q => hJ _ _ _ _ h0 (h.1 q), fun q => hK _ _ _ h0 (h.2 q)⟩
  | ifCond cc o => exact mx_pI_m h fun x r h => ⟨fun q => hJ _ _ _ _ h0 (h.1 q), fun q => hK _ _ _ h0 (h.2 q)⟩
  | tableswitch df lo hi os =>
    have h : mx_pI st fun x st => ((x.toInt < lo ∨ hi < x.toInt) → J ((a : Int) + df).toNat l st w) ∧ (¬ (x.toInt < lo ∨ hi < x.toInt) → ∃ o, os[(x.toInt - lo).toNat]? = some o ∧ J ((a : Int) + o).toNat l st w) := h
    exact (mx_pI_m h fun x r h => ⟨fun q => hJ _ _ _ _ h0 (h.1 q), fun q => (h.2 q).elim fun o h2 => ⟨o, h2.1, hJ _ _ _ _ h0 h2.2⟩⟩ : mx_pI st fun x st => ((x.toInt < lo ∨ hi < x.toInt) → J' ((a : Int) + df).toNat l st w) ∧ (¬ (x.toInt < lo ∨ hi < x.toInt) → ∃ o, os[(x.toInt - lo).toNat]? = some o ∧ J' ((a : Int) + o).toNat l st w))
  | getfield i => exact mx_pR_m h fun k r h => mx_wF_e h (fun x h => hK _ _ _ h0 h) (fun _ h => hK _ _ _ h0 h)
  | putfield i =>
    match d, h with
    | 0, h => exact mx_pI_m h fun x r h => mx_pR_m h fun k r h => mx_wF_e h (fun x h => h) (fun hk h => hK _ _ _ (h0.sF hk) h)
    | _ + 1, h => exact mx_pI_m h fun x r h => mx_pR_m h fun k r h => mx_wF_e h (fun x h => h) (fun hk h => ⟨h.1, hK _ _ _ (h0.sF hk) h.2⟩)
  | arraylength => exact mx_pR_m h fun k r h => mx_wL_e h fun x h => hK _ _ _ h0 h
  | iaload => exact mx_pI_m h fun i r h => mx_pR_m h fun k r h => mx_wA_e h fun hk n h => ⟨h.1, hK _ _ _ h0 h.2⟩
  | baload => exact mx_pI_m h fun i r h => mx_pR_m h fun k r h => mx_wA_e h fun hk n h => ⟨h.1, hK _ _ _ h0 h.2⟩
  | laload => exact mx_pI_m h fun i r h => mx_pR_m h fun k r h => mx_wA_e h fun hk n h => ⟨h.1, hK _ _ _ h0 h.2⟩
  | daload => exact mx_pI_m h fun i r h => mx_pR_m h fun k r h => mx_wA_e h fun hk n h => ⟨h.1, hK _ _ _ h0 h.2⟩
  | aaload => exact mx_pI_m h fun i r h => mx_pR_m h fun k r h => mx_wR_e h fun n rs h => ⟨h.1, mx_wO_m h.2 fun x h => hK _ _ _ h0 h⟩
  | iastore => exact mx_pI_m h fun x r h => mx_pI_m h fun i r h => mx_pR_m h fun k r h => mx_wA_e h fun hk n h => ⟨h.1, hK _ _ _ (h0.sA hk) h.2⟩
  | bastore => exact mx_pI_m h fun x r h => mx_pI_m h fun i r h => mx_pR_m h fun k r h => mx_wA_e h fun hk n h => ⟨h.1, h.2.1, hK _ _ _ (h0.sA hk) h.2.2⟩
  | lastore => exact mx_pL_m h fun x r h => mx_pI_m h fun i r h => mx_pR_m h fun k r h => mx_wA_e h fun hk n h => ⟨h.1, hK _ _ _ (h0.sL hk) h.2⟩
  | dastore => exact mx_pD_m h fun x r h => mx_pI_m h fun i r h => mx_pR_m h fun k r h => mx_wA_e h fun hk n h => ⟨h.1, hK _ _ _ (h0.sD hk) h.2⟩
  | invokevirtual i =>
    match d, h with
    | 0, h =>
      have h : mx_popn st b fun as rest => mx_rcv lay 0 f as ∧ Ga a as w fun v w' => K l (mx_ov v rest) w' := h
      exact (mx_popn_m h fun as r h => ⟨mx_rcv_e h.1, hG _ _ _ _ _ h0 (fun v w h0 h => hK _ _ _ h0 h) h.2⟩ : mx_popn st b fun as rest => mx_rcv (lay ++ X) 0 f as ∧ Ga' a as w fun v w' => K' l (mx_ov v rest) w')
    | 1, h => exact h.elim
    | 2, h => exact h.elim
    | 3, h => exact h.elim
    | _ + 4, h => exact h.elim
  | invokestatic i =>
    match d, h with
    | 0, h => exact h.elim
    | 1, h =>
      have h : mx_popn st b fun as rest => Ga a as w fun v w' => K l (mx_ov v rest) w' := h
      exact (mx_popn_m h fun as r h => hG _ _ _ _ _ h0 (fun v w h0 h => hK _ _ _ h0 h) h : mx_popn st b fun as rest => Ga' a as w fun v w' => K' l (mx_ov v rest) w')
    | 2, h => exact mx_pI_m h fun n r h => mx_pI_m h fun dp r h => mx_pR_m h fun k1 r h => mx_pI_m h fun sp r h => mx_pR_m h fun k0 r h => mx_wA_e h fun hk n0 h => mx_wA_e h fun hk n1 h => ⟨h.1, h.2.1, h.2.2.1, h.2.2.2.1, h.2.2.2.2.1, h.2.2.2.2.2.1, hK _ _ _ (h0.sA hk) h.2.2.2.2.2.2⟩
    | 3, h => exact h.elim
    | 4, h => exact h.elim
    | 5, h => exact h.elim
    | 6, h => exact mx_pI_m h fun y r h => mx_pI_m h fun x r h => ⟨h.1, hK _ _ _ h0 h.2⟩
    | 7, h => exact mx_pI_m h fun y r h => mx_pI_m h fun x r h => ⟨h.1, hK _ _ _ h0 h.2⟩
    | 8, h => exact mx_pL_m h fun y r h => mx_pL_m h fun x r h => ⟨h.1, hK _ _ _ h0 h.2⟩
    | _ + 9, h => exact h.elim
  | ireturn =>
    match d, h with
    | 0, h => exact mx_pI_m h fun x r h => mx_nil_m h fun h => hQ _ _ h0 h
    | _ + 1, h => exact mx_pI_m h fun x r h => mx_nil_m h fun h => ⟨h.1, hQ _ _ h0 h.2⟩
  | lreturn => exact mx_pL_m h fun x r h => mx_nil_m h fun h => hQ _ _ h0 h
  | areturn => exact mx_pR_m h fun x r h => mx_nil_m h fun h => hQ _ _ h0 h
  | dreturn => exact mx_pD_m h fun x r h => mx_nil_m h fun h => hQ _ _ h0 h
  | return_ => exact mx_nil_m h fun h => hQ _ _ h0 h
  | _ => exact h.elim
theorem mx_run_e {Ga Ga' : mx_Ga} {J J' : mx_J} {Q Q' : mx_Po} {w0 : mx_Wd} (hG : ∀ (id : Nat) (as : List Value) (w : mx_Wd) (P P' : mx_Po), mx_kpx lay.length w0 w → (∀ v w', mx_kpx lay.length w0 w' → P v w' → P' v w') → Ga id as w P → Ga' id as w P') (hJ : ∀ L l st w, mx_kpx lay.length w0 w → J L l st w → J' L l st w) (hQ : ∀ v w, mx_kpx lay.length w0 w → Q v w → Q' v w) : ∀ (es : List mx_E) (l : mx_Lo) (st : List Value) (w : mx_Wd), mx_kpx lay.length w0 w → mx_run lay Ga J Q es l st w → mx_run (lay ++ X) Ga' J' Q' es l st w
  | [], _, _, _, _, h => h
  | _ :: es, _, _, _, h0, h => mx_step_e h0 hG hJ hQ (fun l st w h0 h => mx_run_e hG hJ hQ es l st w h0 h) h
theorem mx_wl_e {Ga Ga' : mx_Ga} {bs : List (Nat × List mx_E)} {Q Q' : mx_Po} {w0 : mx_Wd} (hM : mx_mono Ga') (hG : ∀ (id : Nat) (as : List Value) (w : mx_Wd) (P P' : mx_Po), mx_kpx lay.length w0 w → (∀ v w', mx_kpx lay.length w0 w' → P v w' → P' v w') → Ga id as w P → Ga' id as w P') (hQ : ∀ v w, mx_kpx lay.length w0 w → Q v w → Q' v w) {L : Nat} {l : mx_Lo} {st : List Value} {w : mx_Wd} (h0 : mx_kpx lay.length w0 w) (h : mx_wl lay Ga bs Q L l st w) : mx_wl (lay ++ X) Ga' bs Q' L l st w := by
  have h2 := h (fun L l st w => mx_kpx lay.length w0 w → mx_wl (lay ++ X) Ga' bs Q' L l st w) fun L l st w h h0 => mx_wl_in hM (mx_run_e (J' := mx_wl (lay ++ X) Ga' bs Q') hG (fun L l st w h0 h => h h0) hQ _ l st w h0 h)
  exact h2 h0
theorem mx_sem_e (mt : Nat → Option mx_M) : ∀ (d id : Nat) (as : List Value) (w : mx_Wd) (Q : mx_Po), mx_sem mt lay d id as w Q → mx_sem mt (lay ++ X) d id as w (fun v w' => Q v w' ∧ mx_kpx lay.length w w')
  | 0, _, _, _, _, h => h.elim
  | d + 1, id, as, w, Q, h => by
    unfold mx_sem at h ⊢
    split at h
    · refine ⟨h.1, mx_wl_e (w0 := w) (mx_sem_m mt (lay ++ X) d) (fun id as w1 P P' k1 hP hG => ?_) (fun v w' k hQ => ⟨hQ, k⟩) mx_kpx.rf h.2⟩
      exact mx_sem_m mt (lay ++ X) d id as w1 _ P' (fun v w' q => hP v w' (k1.tr q.2) q.1) (mx_sem_e mt d id as w1 P hG)
    · exact h.elim
end MXE
