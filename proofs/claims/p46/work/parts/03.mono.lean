/-! the machine is monotone; its least predicate is closed under the blocks; calls by depth -/
theorem mx_gI_x {l : mx_Lo} {i : Nat} {k : Int32 → Prop} (h : mx_gI l i k) : ∃ x, mx_gl l i = some (.int x) ∧ k x := by
  unfold mx_gI at h
  split at h
  · exact ⟨_, by assumption, h⟩
  · exact h.elim
theorem mx_gL_x {l : mx_Lo} {i : Nat} {k : Int64 → Prop} (h : mx_gL l i k) : ∃ x, mx_gl l i = some (.long x) ∧ k x := by
  unfold mx_gL at h
  split at h
  · exact ⟨_, by assumption, h⟩
  · exact h.elim
theorem mx_gD_x {l : mx_Lo} {i : Nat} {k : UInt64 → Prop} (h : mx_gD l i k) : ∃ x, mx_gl l i = some (.double x) ∧ k x := by
  unfold mx_gD at h
  split at h
  · exact ⟨_, by assumption, h⟩
  · exact h.elim
theorem mx_gR_x {l : mx_Lo} {i : Nat} {k : Nat → Prop} (h : mx_gR l i k) : ∃ x, mx_gl l i = some (.ref x) ∧ k x := by
  unfold mx_gR at h
  split at h
  · exact ⟨_, by assumption, h⟩
  · exact h.elim
theorem mx_pI_x {st : List Value} {k : Int32 → List Value → Prop} (h : mx_pI st k) : ∃ x r, st = .int x :: r ∧ k x r := by
  unfold mx_pI at h
  split at h
  · exact ⟨_, _, rfl, h⟩
  · exact h.elim
theorem mx_pL_x {st : List Value} {k : Int64 → List Value → Prop} (h : mx_pL st k) : ∃ x r, st = .long x :: r ∧ k x r := by
  unfold mx_pL at h
  split at h
  · exact ⟨_, _, rfl, h⟩
  · exact h.elim
theorem mx_pD_x {st : List Value} {k : UInt64 → List Value → Prop} (h : mx_pD st k) : ∃ x r, st = .double x :: r ∧ k x r := by
  unfold mx_pD at h
  split at h
  · exact ⟨_, _, rfl, h⟩
  · exact h.elim
theorem mx_pR_x {st : List Value} {k : Nat → List Value → Prop} (h : mx_pR st k) : ∃ x r, st = .ref x :: r ∧ k x r := by
  unfold mx_pR at h
  split at h
  · exact ⟨_, _, rfl, h⟩
  · exact h.elim
theorem mx_p1_x {st : List Value} {k : Value → List Value → Prop} (h : mx_p1 st k) : ∃ v r, st = v :: r ∧ v.category = 1 ∧ k v r := by
  unfold mx_p1 at h
  split at h
  · exact ⟨_, _, rfl, rfl, h⟩
  · exact ⟨_, _, rfl, rfl, h⟩
  · exact h.elim
theorem mx_nil_x {st : List Value} {P : Prop} (h : mx_nil st P) : st = [] ∧ P := by
  unfold mx_nil at h
  split at h
  · exact ⟨rfl, h⟩
  · exact h.elim
theorem mx_gI_m {l : mx_Lo} {i : Nat} {k k' : Int32 → Prop} (h : mx_gI l i k) (m : ∀ x, k x → k' x) : mx_gI l i k' := by
  unfold mx_gI at h ⊢
  split at h
  · exact m _ h
  · exact h.elim
theorem mx_gL_m {l : mx_Lo} {i : Nat} {k k' : Int64 → Prop} (h : mx_gL l i k) (m : ∀ x, k x → k' x) : mx_gL l i k' := by
  unfold mx_gL at h ⊢
  split at h
  · exact m _ h
  · exact h.elim
theorem mx_gD_m {l : mx_Lo} {i : Nat} {k k' : UInt64 → Prop} (h : mx_gD l i k) (m : ∀ x, k x → k' x) : mx_gD l i k' := by
  unfold mx_gD at h ⊢
  split at h
  · exact m _ h
  · exact h.elim
theorem mx_gR_m {l : mx_Lo} {i : Nat} {k k' : Nat → Prop} (h : mx_gR l i k) (m : ∀ x, k x → k' x) : mx_gR l i k' := by
  unfold mx_gR at h ⊢
  split at h
  · exact m _ h
  · exact h.elim
theorem mx_pI_m {st : List Value} {k k' : Int32 → List Value → Prop} (h : mx_pI st k) (m : ∀ x r, k x r → k' x r) : mx_pI st k' := by
  unfold mx_pI at h ⊢
  split at h
  · exact m _ _ h
  · exact h.elim
theorem mx_pL_m {st : List Value} {k k' : Int64 → List Value → Prop} (h : mx_pL st k) (m : ∀ x r, k x r → k' x r) : mx_pL st k' := by
  unfold mx_pL at h ⊢
  split at h
  · exact m _ _ h
  · exact h.elim
theorem mx_pD_m {st : List Value} {k k' : UInt64 → List Value → Prop} (h : mx_pD st k) (m : ∀ x r, k x r → k' x r) : mx_pD st k' := by
  unfold mx_pD at h ⊢
  split at h
  · exact m _ _ h
  · exact h.elim
theorem mx_pR_m {st : List Value} {k k' : Nat → List Value → Prop} (h : mx_pR st k) (m : ∀ x r, k x r → k' x r) : mx_pR st k' := by
  unfold mx_pR at h ⊢
  split at h
  · exact m _ _ h
  · exact h.elim
theorem mx_p1_m {st : List Value} {k k' : Value → List Value → Prop} (h : mx_p1 st k) (m : ∀ x r, k x r → k' x r) : mx_p1 st k' := by
  unfold mx_p1 at h ⊢
  split at h
  · exact m _ _ h
  · exact m _ _ h
  · exact h.elim
theorem mx_nil_m {st : List Value} {P P' : Prop} (h : mx_nil st P) (m : P → P') : mx_nil st P' := by
  unfold mx_nil at h ⊢
  split at h
  · exact m h
  · exact h.elim
theorem mx_wF_m {o : Option (Option Nat)} {kr kr' : Nat → Prop} {ki ki' : Prop} (h : mx_wF o kr ki) (m : ∀ x, kr x → kr' x) (mi : ki → ki') : mx_wF o kr' ki' := by
  unfold mx_wF at h ⊢
  split at h
  · exact m _ h
  · exact mi h
  · exact h.elim
theorem mx_wA_m {o : Option (Nat × Nat × List Nat)} {kd : Nat} {k k' : Nat → Prop} (h : mx_wA o kd k) (m : ∀ x, k x → k' x) : mx_wA o kd k' := by
  unfold mx_wA at h ⊢
  split at h
  · exact ⟨h.1, m _ h.2⟩
  · exact h.elim
theorem mx_wR_m {o : Option (Nat × Nat × List Nat)} {k k' : Nat → List Nat → Prop} (h : mx_wR o k) (m : ∀ x r, k x r → k' x r) : mx_wR o k' := by
  unfold mx_wR at h ⊢
  split at h
  · exact ⟨h.1, m _ _ h.2⟩
  · exact h.elim
theorem mx_wO_m {o : Option Nat} {k k' : Nat → Prop} (h : mx_wO o k) (m : ∀ x, k x → k' x) : mx_wO o k' := by
  unfold mx_wO at h ⊢
  split at h
  · exact m _ h
  · exact h.elim
theorem mx_popn_m {st : List Value} {n : Nat} {k k' : List Value → List Value → Prop} (h : mx_popn st n k) (m : ∀ a r, k a r → k' a r) : mx_popn st n k' := ⟨h.1, h.2.1, m _ _ h.2.2⟩
def mx_mono (Ga : mx_Ga) : Prop := ∀ (id : Nat) (as : List Value) (w : mx_Wd) (P P' : mx_Po), (∀ v w', P v w' → P' v w') → Ga id as w P → Ga id as w P'
set_option maxHeartbeats 4000000 in
theorem mx_step_m {lay : mx_Lay} {Ga : mx_Ga} {J J' : mx_J} {Q Q' : mx_Po} {e : mx_E} {l : mx_Lo} {st : List Value} {w : mx_Wd} {K K' : mx_Kt} (hG : mx_mono Ga) (hJ : ∀ L l st w, J L l st w → J' L l st w) (hQ : ∀ v w, Q v w → Q' v w) (hK : ∀ l st w, K l st w → K' l st w) (h : mx_step lay Ga J Q e l st w K) : mx_step lay Ga J' Q' e l st w K' := by
  obtain ⟨ins, len, a, b, c, d, f⟩ := e
  cases ins with
  | nop => exact hJ _ _ _ _ h
  | iconst n => exact hK _ _ _ h
  | bipush n => exact hK _ _ _ h
  | sipush n => exact hK _ _ _ h
  | ldc n => exact hK _ _ _ h
  | ldc_w n => exact hK _ _ _ h
  | ldc2_w n =>
    match d, h with
    | 0, h => exact hK _ _ _ h
    | _ + 1, h => exact hK _ _ _ h
  | lconst n => exact hK _ _ _ h
  | dconst n =>
    match a, h with
    | 0, h => exact hK _ _ _ h
    | _ + 1, h => exact hK _ _ _ h
  | iload i => exact mx_gI_m h fun x h => hK _ _ _ h
  | iload_n i => exact mx_gI_m h fun x h => hK _ _ _ h
  | lload i => exact mx_gL_m h fun x h => hK _ _ _ h
  | lload_n i => exact mx_gL_m h fun x h => hK _ _ _ h
  | dload i => exact mx_gD_m h fun x h => hK _ _ _ h
  | dload_n i => exact mx_gD_m h fun x h => hK _ _ _ h
  | aload i => exact mx_gR_m h fun x h => hK _ _ _ h
  | aload_n i => exact mx_gR_m h fun x h => hK _ _ _ h
  | istore i => exact mx_pI_m h fun x r h => hK _ _ _ h
  | istore_n i => exact mx_pI_m h fun x r h => hK _ _ _ h
  | lstore i => exact mx_pL_m h fun x r h => hK _ _ _ h
  | lstore_n i => exact mx_pL_m h fun x r h => hK _ _ _ h
  | dstore i => exact mx_pD_m h fun x r h => hK _ _ _ h
  | dstore_n i => exact mx_pD_m h fun x r h => hK _ _ _ h
  | astore i => exact mx_pR_m h fun x r h => hK _ _ _ h
  | astore_n i => exact mx_pR_m h fun x r h => hK _ _ _ h
  | iinc i n => exact mx_gI_m h fun x h => hK _ _ _ h
  | iadd => exact mx_pI_m h fun x r h => mx_pI_m h fun y r h => hK _ _ _ h
  | isub => exact mx_pI_m h fun x r h => mx_pI_m h fun y r h => hK _ _ _ h
  | imul => exact mx_pI_m h fun x r h => mx_pI_m h fun y r h => hK _ _ _ h
  | iand => exact mx_pI_m h fun x r h => mx_pI_m h fun y r h => hK _ _ _ h
  | ior => exact mx_pI_m h fun x r h => mx_pI_m h fun y r h => hK _ _ _ h
  | ishl => exact mx_pI_m h fun x r h => mx_pI_m h fun y r h => hK _ _ _ h
  | ishr => exact mx_pI_m h fun x r h => mx_pI_m h fun y r h => hK _ _ _ h
  | iushr => exact mx_pI_m h fun x r h => mx_pI_m h fun y r h => hK _ _ _ h
  | idiv => exact mx_pI_m h fun x r h => mx_pI_m h fun y r h => ⟨h.1, hK _ _ _ h.2⟩
  | irem => exact mx_pI_m h fun x r h => mx_pI_m h fun y r h => ⟨h.1, hK _ _ _ h.2⟩
  | i2l => exact mx_pI_m h fun x r h => hK _ _ _ h
  | ladd => exact mx_pL_m h fun x r h => mx_pL_m h fun y r h => hK _ _ _ h
  | lsub => exact mx_pL_m h fun x r h => mx_pL_m h fun y r h => hK _ _ _ h
  | lmul => exact mx_pL_m h fun x r h => mx_pL_m h fun y r h => hK _ _ _ h
  | lrem => exact mx_pL_m h fun x r h => mx_pL_m h fun y r h => ⟨h.1, hK _ _ _ h.2⟩
  | lor => exact mx_pL_m h fun x r h => mx_pL_m h fun y r h => hK _ _ _ h
  | lshl => exact mx_pI_m h fun x r h => mx_pL_m h fun y r h => hK _ _ _ h
  | lcmp => exact mx_pL_m h fun x r h => mx_pL_m h fun y r h => hK _ _ _ h
  | dadd => exact mx_pD_m h fun x r h => mx_pD_m h fun y r h => ⟨h.1, hK _ _ _ h.2⟩
  | dsub => exact mx_pD_m h fun x r h => mx_pD_m h fun y r h => ⟨h.1, hK _ _ _ h.2⟩
  | dmul => exact mx_pD_m h fun x r h => mx_pD_m h fun y r h => ⟨h.1, hK _ _ _ h.2⟩
  | ddiv => exact mx_pD_m h fun x r h => mx_pD_m h fun y r h => ⟨h.1, hK _ _ _ h.2⟩
  | dcmp op => exact mx_pD_m h fun x r h => mx_pD_m h fun y r h => hK _ _ _ h
  | d2l => exact mx_pD_m h fun x r h => hK _ _ _ h
  | dup =>
    have h : mx_p1 st fun v st => K l (v :: v :: st) w := h
    exact (mx_p1_m h fun x r h => hK _ _ _ h : mx_p1 st fun v st => K' l (v :: v :: st) w)
  | dup2 =>
    have h : mx_p1 st fun v st => mx_p1 st fun u st => K l (v :: u :: v :: u :: st) w := h
    exact (mx_p1_m h fun x r h => mx_p1_m h fun y r h => hK _ _ _ h : mx_p1 st fun v st => mx_p1 st fun u st => K' l (v :: u :: v :: u :: st) w)
  | pop =>
    have h : mx_p1 st fun _ st => K l st w := h
    exact (mx_p1_m h fun x r h => hK _ _ _ h : mx_p1 st fun _ st => K' l st w)
  | goto o => exact hJ _ _ _ _ h
  | if_icmp cc o => exact mx_pI_m h fun x r h => mx_pI_m h fun y r h => ⟨fun q => hJ _ _ _ _ (h.1 q), fun q => hK _ _ _ (h.2 q)⟩
  | ifCond cc o => exact mx_pI_m h fun x r h => ⟨fun q => hJ _ _ _ _ (h.1 q), fun q => hK _ _ _ (h.2 q)⟩
  | tableswitch df lo hi os =>
    have h : mx_pI st fun x st => ((x.toInt < lo ∨ hi < x.toInt) → J ((a : Int) + df).toNat l st w) ∧ (¬ (x.toInt < lo ∨ hi < x.toInt) → ∃ o, os[(x.toInt - lo).toNat]? = some o ∧ J ((a : Int) + o).toNat l st w) := h
    exact (mx_pI_m h fun x r h => ⟨fun q => hJ _ _ _ _ (h.1 q), fun q => (h.2 q).elim fun o h2 => ⟨o, h2.1, hJ _ _ _ _ h2.2⟩⟩ : mx_pI st fun x st => ((x.toInt < lo ∨ hi < x.toInt) → J' ((a : Int) + df).toNat l st w) ∧ (¬ (x.toInt < lo ∨ hi < x.toInt) → ∃ o, os[(x.toInt - lo).toNat]? = some o ∧ J' ((a : Int) + o).toNat l st w))
  | getfield i => exact mx_pR_m h fun k r h => mx_wF_m h (fun x h => hK _ _ _ h) (fun h => hK _ _ _ h)
  | putfield i =>
    match d, h with
    | 0, h => exact mx_pI_m h fun x r h => mx_pR_m h fun k r h => mx_wF_m h (fun x h => h) (fun h => hK _ _ _ h)
    | _ + 1, h => exact mx_pI_m h fun x r h => mx_pR_m h fun k r h => mx_wF_m h (fun x h => h) (fun h => ⟨h.1, hK _ _ _ h.2⟩)
  | arraylength => exact mx_pR_m h fun k r h => mx_wO_m h fun x h => hK _ _ _ h
  | iaload => exact mx_pI_m h fun i r h => mx_pR_m h fun k r h => mx_wA_m h fun n h => ⟨h.1, hK _ _ _ h.2⟩
  | baload => exact mx_pI_m h fun i r h => mx_pR_m h fun k r h => mx_wA_m h fun n h => ⟨h.1, hK _ _ _ h.2⟩
  | laload => exact mx_pI_m h fun i r h => mx_pR_m h fun k r h => mx_wA_m h fun n h => ⟨h.1, hK _ _ _ h.2⟩
  | daload => exact mx_pI_m h fun i r h => mx_pR_m h fun k r h => mx_wA_m h fun n h => ⟨h.1, hK _ _ _ h.2⟩
  | aaload => exact mx_pI_m h fun i r h => mx_pR_m h fun k r h => mx_wR_m h fun n rs h => ⟨h.1, mx_wO_m h.2 fun x h => hK _ _ _ h⟩
  | iastore => exact mx_pI_m h fun x r h => mx_pI_m h fun i r h => mx_pR_m h fun k r h => mx_wA_m h fun n h => ⟨h.1, hK _ _ _ h.2⟩
  | bastore => exact mx_pI_m h fun x r h => mx_pI_m h fun i r h => mx_pR_m h fun k r h => mx_wA_m h fun n h => ⟨h.1, h.2.1, hK _ _ _ h.2.2⟩
  | lastore => exact mx_pL_m h fun x r h => mx_pI_m h fun i r h => mx_pR_m h fun k r h => mx_wA_m h fun n h => ⟨h.1, hK _ _ _ h.2⟩
  | dastore => exact mx_pD_m h fun x r h => mx_pI_m h fun i r h => mx_pR_m h fun k r h => mx_wA_m h fun n h => ⟨h.1, hK _ _ _ h.2⟩
  | invokevirtual i =>
    match d, h with
    | 0, h =>
      have h : mx_popn st b fun as rest => mx_rcv lay 0 f as ∧ Ga a as w fun v w' => K l (mx_ov v rest) w' := h
      exact (mx_popn_m h fun as r h => ⟨h.1, hG _ _ _ _ _ (fun v w h => hK _ _ _ h) h.2⟩ : mx_popn st b fun as rest => mx_rcv lay 0 f as ∧ Ga a as w fun v w' => K' l (mx_ov v rest) w')
    | 1, h => exact h.elim
    | 2, h => exact h.elim
    | 3, h => exact h.elim
    | _ + 4, h => exact h.elim
  | invokestatic i =>
    match d, h with
    | 0, h => exact h.elim
    | 1, h =>
      have h : mx_popn st b fun as rest => Ga a as w fun v w' => K l (mx_ov v rest) w' := h
      exact (mx_popn_m h fun as r h => hG _ _ _ _ _ (fun v w h => hK _ _ _ h) h : mx_popn st b fun as rest => Ga a as w fun v w' => K' l (mx_ov v rest) w')
    | 2, h => exact mx_pI_m h fun n r h => mx_pI_m h fun dp r h => mx_pR_m h fun k1 r h => mx_pI_m h fun sp r h => mx_pR_m h fun k0 r h => mx_wA_m h fun n0 h => mx_wA_m h fun n1 h => ⟨h.1, h.2.1, h.2.2.1, h.2.2.2.1, h.2.2.2.2.1, h.2.2.2.2.2.1, hK _ _ _ h.2.2.2.2.2.2⟩
    | 3, h => exact h.elim
    | 4, h => exact h.elim
    | 5, h => exact h.elim
    | 6, h => exact mx_pI_m h fun y r h => mx_pI_m h fun x r h => ⟨h.1, hK _ _ _ h.2⟩
    | 7, h => exact mx_pI_m h fun y r h => mx_pI_m h fun x r h => ⟨h.1, hK _ _ _ h.2⟩
    | 8, h => exact mx_pL_m h fun y r h => mx_pL_m h fun x r h => ⟨h.1, hK _ _ _ h.2⟩
    | _ + 9, h => exact h.elim
  | ireturn =>
    match d, h with
    | 0, h => exact mx_pI_m h fun x r h => mx_nil_m h fun h => hQ _ _ h
    | _ + 1, h => exact mx_pI_m h fun x r h => mx_nil_m h fun h => ⟨h.1, hQ _ _ h.2⟩
  | lreturn => exact mx_pL_m h fun x r h => mx_nil_m h fun h => hQ _ _ h
  | areturn => exact mx_pR_m h fun x r h => mx_nil_m h fun h => hQ _ _ h
  | dreturn => exact mx_pD_m h fun x r h => mx_nil_m h fun h => hQ _ _ h
  | return_ => exact mx_nil_m h fun h => hQ _ _ h
  | _ => exact h.elim
theorem mx_run_m {lay : mx_Lay} {Ga : mx_Ga} {J J' : mx_J} {Q Q' : mx_Po} (hG : mx_mono Ga) (hJ : ∀ L l st w, J L l st w → J' L l st w) (hQ : ∀ v w, Q v w → Q' v w) : ∀ (es : List mx_E) (l : mx_Lo) (st : List Value) (w : mx_Wd), mx_run lay Ga J Q es l st w → mx_run lay Ga J' Q' es l st w
  | [], _, _, _, h => h
  | _ :: es, _, _, _, h => mx_step_m hG hJ hQ (fun l st w h => mx_run_m hG hJ hQ es l st w h) h
/-- the block at a label is what is to be shown there -/
theorem mx_wl_in {lay : mx_Lay} {Ga : mx_Ga} {bs : List (Nat × List mx_E)} {Q : mx_Po} (hG : mx_mono Ga) {L : Nat} {l : mx_Lo} {st : List Value} {w : mx_Wd} (h : mx_run lay Ga (mx_wl lay Ga bs Q) Q (mx_blk bs L) l st w) : mx_wl lay Ga bs Q L l st w := by
  intro P hP
  exact hP L l st w (mx_run_m hG (fun L l st w h => h P hP) (fun _ _ h => h) _ l st w h)
theorem mx_wl_m {lay : mx_Lay} {Ga : mx_Ga} {bs : List (Nat × List mx_E)} {Q Q' : mx_Po} (hG : mx_mono Ga) (hQ : ∀ v w, Q v w → Q' v w) {L : Nat} {l : mx_Lo} {st : List Value} {w : mx_Wd} (h : mx_wl lay Ga bs Q L l st w) : mx_wl lay Ga bs Q' L l st w := by
  intro P hP
  exact h P (fun L l st w h => hP L l st w (mx_run_m hG (fun _ _ _ _ h => h) hQ _ l st w h))
/-- a method: name, bytes, locals, what it returns, static, blocks -/
abbrev mx_M : Type := MethodName × ByteArray × Nat × Option FieldType × Bool × List (Nat × List mx_E)
def mx_en : List Value → mx_Lo
  | [] => []
  | .long x :: r => some (.long x) :: none :: mx_en r
  | .double x :: r => some (.double x) :: none :: mx_en r
  | v :: r => some v :: mx_en r
def mx_ent (n : Nat) (as : List Value) : mx_Lo := mx_en as ++ List.replicate (n - (mx_en as).length) none
def mx_sem (mt : Nat → Option mx_M) (lay : mx_Lay) : Nat → mx_Ga
  | 0 => fun _ _ _ _ => False
  | d + 1 => fun id as w Q => match mt id with
    | some m => (mx_en as).length ≤ m.2.2.1 ∧ mx_wl lay (mx_sem mt lay d) m.2.2.2.2.2 Q 0 (mx_ent m.2.2.1 as) [] w
    | none => False
theorem mx_sem_m (mt : Nat → Option mx_M) (lay : mx_Lay) : ∀ d, mx_mono (mx_sem mt lay d)
  | 0 => fun _ _ _ _ _ _ h => h.elim
  | d + 1 => fun id as w P P' hP h => by
    unfold mx_sem at h ⊢
    split at h
    · exact ⟨h.1, mx_wl_m (mx_sem_m mt lay d) hP h.2⟩
    · exact h.elim
theorem mx_wx_in {lay : mx_Lay} {Ga : mx_Ga} {bs : List (Nat × List mx_E)} {Q : mx_Po} {E : mx_J} (hG : mx_mono Ga) {L : Nat} {l : mx_Lo} {st : List Value} {w : mx_Wd} (h : mx_run lay Ga (mx_wx lay Ga bs Q E) Q (mx_blk bs L) l st w) : mx_wx lay Ga bs Q E L l st w := by
  intro P hE hP
  exact hP L l st w (mx_run_m hG (fun L l st w h => h P hE hP) (fun _ _ h => h) _ l st w h)
theorem mx_wx_ex {lay : mx_Lay} {Ga : mx_Ga} {bs : List (Nat × List mx_E)} {Q : mx_Po} {E : mx_J} {L : Nat} {l : mx_Lo} {st : List Value} {w : mx_Wd} (h : E L l st w) : mx_wx lay Ga bs Q E L l st w := fun _ hE _ => hE L l st w h
