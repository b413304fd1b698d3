/-! from the small machine's worlds to cells: addresses ad, array classes cA -/
def mx_cv (ad : Nat → Nat) (v : Value) : Value := match v with
  | .ref k => .ref (ad k)
  | v => v
theorem mx_cv_cat (ad : Nat → Nat) (v : Value) : (mx_cv ad v).category = v.category := by cases v <;> rfl
def mx_toA (ad : Nat → Nat) : Nat → mx_Lo → List (Nat × Value)
  | _, [] => []
  | k, none :: r => mx_toA ad (k + 1) r
  | k, some v :: r => (k, mx_cv ad v) :: mx_toA ad (k + 1) r
theorem mx_toA_mem {ad : Nat → Nat} {q : Nat × Value} : ∀ {k : Nat} {l : mx_Lo}, q ∈ mx_toA ad k l ↔ ∃ j v, mx_gl l j = some v ∧ q = (k + j, mx_cv ad v)
  | k, [] => by simp [mx_toA, mx_gl]
  | k, o :: r => by
    have ih := mx_toA_mem (ad := ad) (q := q) (k := k + 1) (l := r)
    have step : (∃ j v, mx_gl (o :: r) j = some v ∧ q = (k + j, mx_cv ad v)) ↔ (∃ v, o = some v ∧ q = (k, mx_cv ad v)) ∨ ∃ j v, mx_gl r j = some v ∧ q = (k + 1 + j, mx_cv ad v) := by
      constructor
      · rintro ⟨j, v, h1, h2⟩
        cases j with
        | zero => exact Or.inl ⟨v, h1, h2⟩
        | succ j => exact Or.inr ⟨j, v, h1, by rw [h2]; congr 1; omega⟩
      · rintro (⟨v, h1, h2⟩ | ⟨j, v, h1, h2⟩)
        · exact ⟨0, v, h1, h2⟩
        · exact ⟨j + 1, v, h1, by rw [h2]; congr 1; omega⟩
    rw [step, ← ih]
    cases o with
    | none => simp [mx_toA]
    | some v => simp [mx_toA]
theorem mx_gl_set {l : mx_Lo} {i j : Nat} {o : Option Value} {v : Value} (h : mx_gl (l.set i o) j = some v) : (j = i ∧ o = some v) ∨ (j ≠ i ∧ mx_gl l j = some v) := by
  induction l generalizing i j with
  | nil => simp [mx_gl] at h
  | cons a r ih =>
    cases i with
    | zero =>
      cases j with
      | zero => exact Or.inl ⟨rfl, h⟩
      | succ j => exact Or.inr ⟨by omega, h⟩
    | succ i =>
      cases j with
      | zero => exact Or.inr ⟨by omega, h⟩
      | succ j =>
        rcases ih (i := i) (j := j) h with ⟨a, b⟩ | ⟨a, b⟩
        · exact Or.inl ⟨by omega, b⟩
        · exact Or.inr ⟨by omega, b⟩
def mx_LR (ad : Nat → Nat) (nL : Nat) (l : mx_Lo) (ls : Array Slot) : Prop := lv_has ls nL (mx_toA ad 0 l)
theorem mx_LR_at {ad : Nat → Nat} {nL : Nat} {l : mx_Lo} {ls : Array Slot} (h : mx_LR ad nL l ls) {i : Nat} {v : Value} (hv : mx_gl l i = some v) : ls[i]? = some (.val (mx_cv ad v)) := by
  have := h.2.2 (i, mx_cv ad v) (mx_toA_mem.mpr ⟨i, v, hv, by simp⟩)
  exact this
theorem mx_cp_x {l : mx_Lo} {i j : Nat} {v : Value} (h : mx_gl (mx_cp l i) j = some v) : mx_gl l j = some v ∧ (j + 1 = i → ¬ v.category = 2) := by
  cases i with
  | zero => exact ⟨h, fun q => absurd q (by omega)⟩
  | succ i =>
    unfold mx_cp at h
    dsimp only at h
    split at h
    · rcases mx_gl_set h with ⟨_, q⟩ | ⟨q1, q2⟩
      · cases q
      · exact ⟨q2, fun q => absurd q (by omega)⟩
    · rcases mx_gl_set h with ⟨_, q⟩ | ⟨q1, q2⟩
      · cases q
      · exact ⟨q2, fun q => absurd q (by omega)⟩
    · rename_i h1 h2
      refine ⟨h, fun q z => ?_⟩
      have q : j = i := by omega
      subst q
      cases v <;> first | exact h1 _ h | exact h2 _ h | cases z
theorem mx_LR_st1 {ad : Nat → Nat} {nL : Nat} {l : mx_Lo} {ls : Array Slot} {i : Nat} {v : Value} (h : lv_has ls nL ((i, mx_cv ad v) :: (mx_toA ad 0 l).filter (fun q => !(q.1 == i) && !(q.1 + 1 == i && q.2.category == 2)))) : mx_LR ad nL ((mx_cp l i).set i (some v)) ls := by
  refine ⟨h.1, h.2.1, fun q hq => h.2.2 q ?_⟩
  obtain ⟨j, u, h1, h2⟩ := mx_toA_mem.mp hq
  rcases mx_gl_set h1 with ⟨e1, e2⟩ | ⟨e1, e2⟩
  · cases e2
    subst e1
    rw [h2]
    simp
  · obtain ⟨e2, e3⟩ := mx_cp_x e2
    refine List.mem_cons_of_mem _ (List.mem_filter.mpr ⟨mx_toA_mem.mpr ⟨j, u, e2, h2⟩, ?_⟩)
    rw [h2]
    have h3 : ¬ (j + 1 = i ∧ u.category = 2) := fun z => e3 z.1 z.2
    simp only [Nat.zero_add, mx_cv_cat, Bool.and_eq_true, Bool.not_eq_true', beq_eq_false_iff_ne, ne_eq, Bool.and_eq_false_iff]
    refine ⟨e1, ?_⟩
    by_cases z : j + 1 = i
    · exact Or.inr fun z2 => h3 ⟨z, z2⟩
    · exact Or.inl z
theorem mx_LR_st2 {ad : Nat → Nat} {nL : Nat} {l : mx_Lo} {ls : Array Slot} {i : Nat} {v : Value} (h : lv_has ls nL ((i, mx_cv ad v) :: (mx_toA ad 0 l).filter (fun q => !(q.1 == i) && (!(q.1 == i + 1) && !(q.1 + 1 == i && q.2.category == 2))))) : mx_LR ad nL (((mx_cp l i).set i (some v)).set (i + 1) none) ls := by
  refine ⟨h.1, h.2.1, fun q hq => h.2.2 q ?_⟩
  obtain ⟨j, u, h1, h2⟩ := mx_toA_mem.mp hq
  rcases mx_gl_set h1 with ⟨e1, e2⟩ | ⟨e0, e2⟩
  · cases e2
  rcases mx_gl_set e2 with ⟨e1, e2⟩ | ⟨e1, e2⟩
  · cases e2
    subst e1
    rw [h2]
    simp
  · obtain ⟨e2, e3⟩ := mx_cp_x e2
    refine List.mem_cons_of_mem _ (List.mem_filter.mpr ⟨mx_toA_mem.mpr ⟨j, u, e2, h2⟩, ?_⟩)
    rw [h2]
    have h3 : ¬ (j + 1 = i ∧ u.category = 2) := fun z => e3 z.1 z.2
    simp only [Nat.zero_add, mx_cv_cat, Bool.and_eq_true, Bool.not_eq_true', beq_eq_false_iff_ne, ne_eq, Bool.and_eq_false_iff]
    refine ⟨e1, e0, ?_⟩
    by_cases z : j + 1 = i
    · exact Or.inr fun z2 => h3 ⟨z, z2⟩
    · exact Or.inl z
/-- the entry's locals -/
theorem mx_en_args (ad : Nat → Nat) : ∀ (as : List Value) (k : Nat), lv_args k (as.map (mx_cv ad)) = mx_toA ad k (mx_en as)
  | [], k => rfl
  | v :: r, k => by
    have ih := fun k => mx_en_args ad r k
    cases v <;> simp [lv_args, mx_en, mx_toA, mx_cv, Value.category, ih]
theorem mx_en_len (ad : Nat → Nat) : ∀ (as : List Value), (lg_sl (as.map (mx_cv ad))).length = (mx_en as).length
  | [] => rfl
  | v :: r => by
    have ih := mx_en_len ad r
    cases v <;> simp_all [lg_sl, mx_en, mx_cv, Value.category]
theorem mx_toA_app (ad : Nat → Nat) (n : Nat) : ∀ (l : mx_Lo) (k : Nat), mx_toA ad k (l ++ List.replicate n none) = mx_toA ad k l
  | [], k => by
    induction n generalizing k with
    | zero => rfl
    | succ n ih => exact ih (k + 1)
  | none :: r, k => mx_toA_app ad n r (k + 1)
  | some v :: r, k => congrArg (List.cons (k, mx_cv ad v)) (mx_toA_app ad n r (k + 1))
theorem mx_LR_en (ad : Nat → Nat) {as : List Value} {n : Nat} (h : (mx_en as).length ≤ n) : mx_LR ad n (mx_ent n as) ((lg_sl (as.map (mx_cv ad)) ++ List.replicate (n - (lg_sl (as.map (mx_cv ad))).length) Slot.unset).toArray) := by
  have h1 := lv_entry (as.map (mx_cv ad)) (n := n) (by rw [mx_en_len]; exact h)
  rw [mx_en_args] at h1
  unfold mx_LR mx_ent
  rw [mx_toA_app]
  exact h1
/-! cells -/
def mx_kty (kd : Nat) : FieldType := match kd with
  | 0 => .int
  | 1 => .boolean
  | 2 => .long
  | 3 => .double
  | 4 => .array .int
  | _ => .array .long
def mx_av (ad : Nat → Nat) (w : mx_Wd) (k kd n : Nat) (rs : List Nat) : vp_A := match kd with
  | 0 => (n, .inl (mx_A w k))
  | 1 => (n, .inl (mx_A w k))
  | 2 => (n, .inr (.inl (mx_L w k)))
  | 3 => (n, .inr (.inr (.inr (.inl (mx_D w k)))))
  | _ => (n, .inr (.inr (.inr (.inr fun i => (rs[i]?).map ad))))
def mx_fv (ad : Nat → Nat) (w : mx_Wd) (k j : Nat) (o : Option Nat) : Value := match o with
  | some k' => .ref (ad k')
  | none => .int (mx_F w k j)
def mx_fs (ad : Nat → Nat) (w : mx_Wd) (k : Nat) (fs : List (Option Nat)) : List Value := fs.mapIdx fun j o => mx_fv ad w k j o
def mx_cell (ad : Nat → Nat) (cA : Nat → ClassId) (w : mx_Wd) (k : Nat) (c : (Nat × List (Option Nat)) ⊕ (Nat × Nat × List Nat)) : va_E := match c with
  | .inl o => .inr (o.1, mx_fs ad w k o.2)
  | .inr q => .inl (cA k, mx_av ad w k q.1 q.2.1 q.2.2)
def mx_cc (ad : Nat → Nat) (cA : Nat → ClassId) (lay : mx_Lay) (w : mx_Wd) : va_W := lay.mapIdx fun k c => (ad k, mx_cell ad cA w k c)
theorem mx_cc_at {ad : Nat → Nat} {cA : Nat → ClassId} {lay : mx_Lay} {w : mx_Wd} {k : Nat} {c} (h : lay[k]? = some c) : (mx_cc ad cA lay w)[k]? = some (ad k, mx_cell ad cA w k c) := by
  simp [mx_cc, h]
theorem mx_cc_D {ad : Nat → Nat} {cA : Nat → ClassId} {lay : mx_Lay} {w w' : mx_Wd} {A : Nat → Prop} (h : va_D A (mx_cc ad cA lay w)) : va_D A (mx_cc ad cA lay w') := by
  have key : ∀ (i : Nat) (p : Nat × va_E), (mx_cc ad cA lay w')[i]? = some p → ∃ p', (mx_cc ad cA lay w)[i]? = some p' ∧ p'.1 = p.1 := by
    intro i p hp
    simp only [mx_cc, List.getElem?_mapIdx, Option.map_eq_some_iff] at hp
    obtain ⟨c, hc, e⟩ := hp
    exact ⟨_, mx_cc_at hc, by rw [← e]⟩
  refine ⟨fun i j p q hp hq e => ?_, fun k q hq => ?_⟩
  · obtain ⟨p', a1, a2⟩ := key i p hp
    obtain ⟨q', b1, b2⟩ := key j q hq
    exact h.1 i j p' q' a1 b1 (by rw [a2, b2, e])
  · obtain ⟨q', b1, b2⟩ := key k q hq
    rw [← b2]
    exact h.2 k q' b1
theorem mx_cc_A {ad : Nat → Nat} {cA : Nat → ClassId} {lay : mx_Lay} {w w' : mx_Wd} {sz q : Nat} (h : va_A (mx_cc ad cA lay w) sz q) : va_A (mx_cc ad cA lay w') sz q := by
  rcases h with ⟨k, e, h⟩ | h
  · simp only [mx_cc, List.getElem?_mapIdx, Option.map_eq_some_iff] at h
    obtain ⟨c, hc, e2⟩ := h
    have := mx_cc_at (ad := ad) (cA := cA) (w := w') hc
    rw [Prod.mk.injEq] at e2
    rw [e2.1] at this
    exact Or.inl ⟨k, _, this⟩
  · exact Or.inr h
theorem mx_cc_set {ad : Nat → Nat} {cA : Nat → ClassId} {lay : mx_Lay} {w w' : mx_Wd} {k : Nat} {c} (h : lay[k]? = some c) {x : va_E} (hx : x = mx_cell ad cA w' k c) (ho : ∀ i c', i ≠ k → mx_cell ad cA w i c' = mx_cell ad cA w' i c') : (mx_cc ad cA lay w).set k (ad k, x) = mx_cc ad cA lay w' := by
  apply List.ext_getElem?
  intro i
  rw [List.getElem?_set]
  by_cases hi : k = i
  · subst hi
    rw [if_pos rfl, if_pos (by have := (List.getElem?_eq_some_iff.mp h).1; simpa [mx_cc] using this), mx_cc_at h, hx]
  · rw [if_neg hi]
    simp only [mx_cc, List.getElem?_mapIdx]
    cases lay[i]? with
    | none => rfl
    | some c' =>
      simp only [Option.map_some]
      rw [ho i c' (Ne.symm hi)]
theorem mx_cell_sF {ad : Nat → Nat} {cA : Nat → ClassId} {w : mx_Wd} {k j : Nat} {x : Int32} (i : Nat) (c) (h : i ≠ k) : mx_cell ad cA w i c = mx_cell ad cA (mx_sF w k j x) i c := by
  have h1 : ∀ j', mx_F (mx_sF w k j x) i j' = mx_F w i j' := fun j' => by simp [mx_F, mx_sF, h]
  cases c with
  | inl o => simp only [mx_cell, mx_fs, mx_fv, h1]
  | inr q => rfl
theorem mx_cell_sA {ad : Nat → Nat} {cA : Nat → ClassId} {w : mx_Wd} {k : Nat} {f : Nat → Int32} (i : Nat) (c) (h : i ≠ k) : mx_cell ad cA w i c = mx_cell ad cA (mx_sA w k f) i c := by
  have h1 : mx_A (mx_sA w k f) i = mx_A w i := by simp [mx_A, mx_sA, h]
  cases c with
  | inl o => rfl
  | inr q =>
    simp only [mx_cell, mx_av, h1]
    rfl
theorem mx_cell_sL {ad : Nat → Nat} {cA : Nat → ClassId} {w : mx_Wd} {k : Nat} {f : Nat → Int64} (i : Nat) (c) (h : i ≠ k) : mx_cell ad cA w i c = mx_cell ad cA (mx_sL w k f) i c := by
  have h1 : mx_L (mx_sL w k f) i = mx_L w i := by simp [mx_L, mx_sL, h]
  cases c with
  | inl o => rfl
  | inr q =>
    simp only [mx_cell, mx_av, h1]
    rfl
theorem mx_cell_sD {ad : Nat → Nat} {cA : Nat → ClassId} {w : mx_Wd} {k : Nat} {f : Nat → UInt64} (i : Nat) (c) (h : i ≠ k) : mx_cell ad cA w i c = mx_cell ad cA (mx_sD w k f) i c := by
  have h1 : mx_D (mx_sD w k f) i = mx_D w i := by simp [mx_D, mx_sD, h]
  cases c with
  | inl o => rfl
  | inr q =>
    simp only [mx_cell, mx_av, h1]
    rfl
theorem mx_A_sA (w : mx_Wd) (k : Nat) (f : Nat → Int32) : mx_A (mx_sA w k f) k = f := by simp [mx_A, mx_sA]
theorem mx_L_sL (w : mx_Wd) (k : Nat) (f : Nat → Int64) : mx_L (mx_sL w k f) k = f := by simp [mx_L, mx_sL]
theorem mx_D_sD (w : mx_Wd) (k : Nat) (f : Nat → UInt64) : mx_D (mx_sD w k f) k = f := by simp [mx_D, mx_sD]
theorem mx_fs_set {ad : Nat → Nat} {w : mx_Wd} {k j : Nat} {x : Int32} {fs : List (Option Nat)} (h : fs[j]? = some none) : (mx_fs ad w k fs).set j (.int x) = mx_fs ad (mx_sF w k j x) k fs := by
  apply List.ext_getElem?
  intro i
  rw [List.getElem?_set]
  by_cases hi : j = i
  · subst hi
    rw [if_pos rfl, if_pos (by have := (List.getElem?_eq_some_iff.mp h).1; simpa [mx_fs] using this)]
    simp [mx_fs, h, mx_fv, mx_F, mx_sF]
  · rw [if_neg hi]
    simp only [mx_fs, List.getElem?_mapIdx]
    cases fs[i]? with
    | none => rfl
    | some o =>
      cases o with
      | some z => rfl
      | none => simp [mx_fv, mx_F, mx_sF, Ne.symm hi]
theorem mx_fs_at {ad : Nat → Nat} {w : mx_Wd} {k j : Nat} {fs : List (Option Nat)} {o : Option Nat} (h : fs[j]? = some o) : (mx_fs ad w k fs)[j]? = some (mx_fv ad w k j o) := by
  simp [mx_fs, h]
theorem mx_fld_x {lay : mx_Lay} {k ci j : Nat} {o : Option Nat} (h : mx_fld lay k ci j = some o) : ∃ fs, lay[k]? = some (.inl (ci, fs)) ∧ fs[j]? = some o := by
  unfold mx_fld at h
  split at h
  · rename_i c fs hl
    split at h
    · rename_i e
      subst e
      exact ⟨fs, hl, h⟩
    · cases h
  · cases h
theorem mx_arr_x {lay : mx_Lay} {k : Nat} {q : Nat × Nat × List Nat} (h : mx_arr lay k = some q) : lay[k]? = some (.inr q) := by
  unfold mx_arr at h
  split at h
  · rename_i q' hl
    cases h
    exact hl
  · cases h
theorem mx_isO_x {lay : mx_Lay} {k ci : Nat} (h : mx_isO lay k ci = true) : ∃ fs, lay[k]? = some (.inl (ci, fs)) := by
  unfold mx_isO at h
  split at h
  · rename_i c fs hl
    have e : c = ci := by simpa using h
    subst e
    exact ⟨fs, hl⟩
  · cases h
theorem mx_wF_x {o : Option (Option Nat)} {kr : Nat → Prop} {ki : Prop} (h : mx_wF o kr ki) : (∃ k, o = some (some k) ∧ kr k) ∨ (o = some none ∧ ki) := by
  unfold mx_wF at h
  split at h
  · exact Or.inl ⟨_, rfl, h⟩
  · exact Or.inr ⟨rfl, h⟩
  · exact h.elim
theorem mx_wA_x {o : Option (Nat × Nat × List Nat)} {kd : Nat} {k : Nat → Prop} (h : mx_wA o kd k) : ∃ n rs, o = some (kd, n, rs) ∧ k n := by
  unfold mx_wA at h
  split at h
  · obtain ⟨e, h⟩ := h
    subst e
    exact ⟨_, _, rfl, h⟩
  · exact h.elim
theorem mx_wR_x {o : Option (Nat × Nat × List Nat)} {k : Nat → List Nat → Prop} (h : mx_wR o k) : ∃ kd n rs, o = some (kd, n, rs) ∧ 4 ≤ kd ∧ k n rs := by
  unfold mx_wR at h
  split at h
  · exact ⟨_, _, _, rfl, h⟩
  · exact h.elim
theorem mx_wO_x {o : Option Nat} {k : Nat → Prop} (h : mx_wO o k) : ∃ x, o = some x ∧ k x := by
  unfold mx_wO at h
  split at h
  · exact ⟨_, rfl, h⟩
  · exact h.elim
def mx_K (D : va_G) (cA : Nat → ClassId) (lay : mx_Lay) (U : State) : Prop := (∀ (c : Nat) (q : vw_C), vwCl[c]? = some q → u_Kn U q.1 q.2.1 q.2.2 (D.1 c) (D.2 c)) ∧ ∀ (k kd n : Nat) (rs : List Nat), lay[k]? = some (.inr (kd, n, rs)) → ArrOfT U (cA k) (mx_kty kd) ∧ va_RA U (cA k) (mx_kty kd)
theorem mx_K.moved {D : va_G} {cA : Nat → ClassId} {lay : mx_Lay} {u U : State} (hvm : u.vm.Alike U.vm) (h : mx_K D cA lay u) : mx_K D cA lay U := ⟨fun c q hq => u_Kn_moved hvm (h.1 c q hq), fun k kd n rs hk => ⟨arrOfT_moved hvm (h.2 k kd n rs hk).1, (h.2 k kd n rs hk).2.moved hvm⟩⟩
theorem mx_K.va {D : va_G} {cA : Nat → ClassId} {lay : mx_Lay} {U : State} (h : mx_K D cA lay U) {k kd n : Nat} {rs : List Nat} (hk : lay[k]? = some (.inr (kd, n, rs))) : va_K D vwCl [(cA k, mx_kty kd)] U := by
  refine ⟨h.1, fun i q hi => ?_⟩
  have : i = 0 := by
    have := (List.getElem?_eq_some_iff.mp hi).1
    simp at this
    exact this
  subst this
  cases hi
  exact h.2 k kd n rs hk
theorem mx_K.cl {D : va_G} {cA : Nat → ClassId} {lay : mx_Lay} {U : State} (h : mx_K D cA lay U) : va_K D vwCl [] U := ⟨h.1, fun i q hi => by simp at hi⟩
