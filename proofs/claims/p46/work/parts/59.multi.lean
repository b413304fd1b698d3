/-! an array of arrays out of one instruction: its cells, and the row of the walk -/
def mm_out (cA : ClassId) (N q i : Nat) : Cell := arrV cA N fun j => if j < i then .ref (q + 1 + j) else .null
theorem mm_out_0 {cA : ClassId} {N q : Nat} : mm_out cA N q 0 = arrV cA N fun _ => .null := by
  unfold mm_out
  congr 1
theorem mm_out_s {cA : ClassId} {N q i : Nat} : (mm_out cA N q i).setSlot i (.ref (q + 1 + i)) = mm_out cA N q (i + 1) := by
  unfold mm_out
  rw [arrV_store]
  congr 1
  funext j
  unfold updV
  by_cases h : j = i
  · subst h
    rw [if_pos rfl, if_pos (Nat.lt_succ_self j)]
  · rw [if_neg h]
    show (if j < i then Value.ref (q + 1 + j) else Value.null) = _
    by_cases h2 : j < i
    · rw [if_pos h2, if_pos (by omega)]
    · rw [if_neg h2, if_neg (by omega)]
/-- what the tables say of an array of arrays -/
def mm_AO (ty : FieldType) (U : State) : Prop := ∃ (cB cA : ClassId) (kA : Class), U.vm.findClass (FieldType.array ty).toString = some cB ∧ U.vm.classes[cA]? = some kA ∧ kA.kind = .array cB (.array ty) ∧ U.vm.findClass ("[" ++ (FieldType.array ty).toString) = some cA
theorem mm_AO.moved {ty : FieldType} {u U : State} (hvm : u.vm.Alike U.vm) (h : mm_AO ty u) : mm_AO ty U := by
  obtain ⟨cB, cA, kA, h1, h2, h3, h4⟩ := h
  obtain ⟨k', hk', he⟩ := hvm.2.2 _ _ h2
  exact ⟨cB, cA, k', by rw [hvm.findClass]; exact h1, hk', by rw [he]; exact h3, by rw [hvm.findClass]; exact h4⟩
theorem mm_AO.of {args : Array Value} {s : State} {ty : FieldType} (h : (Cond.arrayOver (.array ty)).before args s = true) : mm_AO ty s := by
  obtain ⟨cB, cA, kA, hcB, -, hkA, hkindA, hnA⟩ := arrayOverA_spec h
  exact ⟨cB, cA, kA, hcB, hkA, hkindA, hnA⟩
def mm_L (q N : Nat) (cA cB : ClassId) (a0 : vp_A) : va_W := (q, .inl (cA, N, .inr (.inr (.inr (.inr fun i => if i < N then some (q + 1 + i) else none))))) :: (List.range N).map fun i => (q + 1 + i, .inl (cB, a0))
theorem mm_L_at {q N : Nat} {cA cB : ClassId} {a0 : vp_A} {k : Nat} {x : Nat × va_E} (h : (mm_L q N cA cB a0)[k]? = some x) : (k = 0 ∧ x = (q, .inl (cA, N, .inr (.inr (.inr (.inr fun i => if i < N then some (q + 1 + i) else none)))))) ∨ ∃ i, k = i + 1 ∧ i < N ∧ x = (q + 1 + i, .inl (cB, a0)) := by
  cases k with
  | zero => exact Or.inl ⟨rfl, (Option.some.inj h).symm⟩
  | succ i =>
    refine Or.inr ⟨i, rfl, ?_⟩
    have h2 : ((List.range N).map fun i => ((q + 1 + i, .inl (cB, a0)) : Nat × va_E))[i]? = some x := h
    rw [List.getElem?_map] at h2
    by_cases hi : i < N
    · rw [List.getElem?_range hi] at h2
      exact ⟨hi, (Option.some.inj h2).symm⟩
    · rw [List.getElem?_eq_none (by simp; omega)] at h2
      cases h2
section MM
variable {p : Program} {l : Launch} {e : Env} {R : Room} {s : State} {m : MethodId} {args : Array Value} {below : List Frame} {meth : Method} {c : Code} {H : Heap} {locs : List Loc} {cells slots : Nat} {Q : State → Prop}
def mm_fill (T : State) (cA cB : ClassId) (N M : Nat) (dv : Value) : Nat → State
  | 0 => T.pushCell (arrV cA N fun _ => .null)
  | i + 1 => ((mm_fill T cA cB N M dv i).pushCell (arrV cB M fun _ => dv)).setCell T.heap.size ((mm_out cA N T.heap.size i).setSlot i (.ref (mm_fill T cA cB N M dv i).heap.size))
/-- the state after i inner arrays -/
def mm_J (p : Program) (l : Launch) (e : Env) (R : Room) (s : State) (m : MethodId) (args : Array Value) (below : List Frame) (meth : Method) (c : Code) (T : State) (locs : List Loc) (cells slots : Nat) (cA cB : ClassId) (N M : Nat) (dv : Value) (i : Nat) (U : State) : Prop :=
  Stand p l e R s m args below meth c U locs (cells + (1 + i)) (slots + (N + i * M)) ∧ U.heap.size = T.heap.size + 1 + i ∧ U.heap[T.heap.size]? = some (mm_out cA N T.heap.size i) ∧ (∀ j, j < i → U.heap[T.heap.size + 1 + j]? = some (arrV cB M fun _ => dv)) ∧ (∀ a, a < T.heap.size → U.heap[a]? = T.heap[a]?) ∧ U.vm = T.vm ∧ U = mm_fill T cA cB N M dv i
theorem mm_J0 {T : State} {cA cB : ClassId} {N M : Nat} {dv : Value} (X : Stand p l e R s m args below meth c T locs cells slots) : mm_J p l e R s m args below meth c T locs cells slots cA cB N M dv 0 (T.pushCell (arrV cA N fun _ => .null)) := by
  have h := X.pushed (arrV cA N fun _ => .null)
  rw [arrV_size] at h
  refine ⟨?_, by simp, ?_, fun j h => absurd h (Nat.not_lt_zero j), fun a ha => State.heap_pushCell_of_lt _ _ ha, rfl, rfl⟩
  · rw [show slots + (N + 0 * M) = slots + N by omega]
    exact h
  · rw [mm_out_0]
    exact State.heap_pushCell_size _ _
theorem mm_Js {T U : State} {cA cB : ClassId} {N M i : Nat} {dv : Value} (hs : s.heap.size ≤ T.heap.size) (h : mm_J p l e R s m args below meth c T locs cells slots cA cB N M dv i U) : mm_J p l e R s m args below meth c T locs cells slots cA cB N M dv (i + 1) ((U.pushCell (arrV cB M fun _ => dv)).setCell T.heap.size ((mm_out cA N T.heap.size i).setSlot i (.ref U.heap.size))) := by
  obtain ⟨X, z, h1, h2, h3, h4, h5⟩ := h
  have hlt : T.heap.size < U.heap.size := by omega
  have hc : (U.pushCell (arrV cB M fun _ => dv)).heap[T.heap.size]? = some (mm_out cA N T.heap.size i) := by rw [State.heap_pushCell_of_lt (h := hlt)]; exact h1
  have Y := ((X.pushed (arrV cB M fun _ => dv)).stored hc i (.ref U.heap.size)).forget (fun y hy => by rw [List.mem_singleton.mp hy]; exact hs)
  rw [arrV_size] at Y
  have e : (mm_out cA N T.heap.size i).setSlot i (.ref U.heap.size) = mm_out cA N T.heap.size (i + 1) := by
    rw [z]
    exact mm_out_s
  refine ⟨?_, ?_, ?_, fun j hj => ?_, fun a ha => ?_, h4, by rw [h5]; rfl⟩
  · rw [show cells + (1 + (i + 1)) = cells + (1 + i) + 1 by omega, show slots + (N + (i + 1) * M) = slots + (N + i * M) + M by rw [Nat.succ_mul]; omega]
    exact Y
  · show ((U.heap.push _).setIfInBounds _ _).size = _
    simp
    omega
  · rw [State.heap_setCell_self hc, e]
  · rw [State.heap_setCell_other (show T.heap.size ≠ T.heap.size + 1 + j by omega)]
    by_cases hji : j < i
    · rw [State.heap_pushCell_of_lt (h := show T.heap.size + 1 + j < U.heap.size by omega)]
      exact h2 j hji
    · rw [show T.heap.size + 1 + j = U.heap.size by omega]
      exact State.heap_pushCell_size _ _
  · rw [State.heap_setCell_other (show T.heap.size ≠ a by omega), State.heap_pushCell_of_lt (h := show a < U.heap.size by omega)]
    exact h3 a ha
theorem mm_J_all {T : State} {cA cB : ClassId} {N M : Nat} {dv : Value} (X : Stand p l e R s m args below meth c T locs cells slots) (hs : s.heap.size ≤ T.heap.size) : ∀ i, mm_J p l e R s m args below meth c T locs cells slots cA cB N M dv i (mm_fill T cA cB N M dv i)
  | 0 => mm_J0 X
  | i + 1 => mm_Js hs (mm_J_all X hs i)
theorem mm_make1 {s0 : State} {E : CtlPost} {d : Bool} {acts : List Action} {cB cc : ClassId} {kc : Class} {ty : FieldType} {k : Int32} (hkc : s0.vm.classes[cB]? = some kc) (hkindc : kc.kind = .array cc ty) (hk : ¬ k < 0) (hl : ¬ k.toNatClampNeg > e.platform.arrayLengthLimit) (hh : ¬ k.toNatClampNeg * componentBytes ty > e.platform.maxHeapBytes) (hdf : fits ty (defaultValue ty) = true)
    (h1 : s0.heap.size + 1 ≤ e.platform.maxCells) (h2 : s0.slotsUsed + k.toNatClampNeg ≤ e.platform.maxSlots) {Qp : Addr → Pre} (hq : ∀ acts', Qp s0.heap.size d acts' (s0.pushCell (arrV cB k.toNatClampNeg fun _ => defaultValue ty))) : wp (multianewarray.make cB [k]) Qp E e d acts s0 := by
  rw [multianewarray.make]
  simp only [wp_bind', W.ite, hk, if_false, wp_pure', W.theClass, hkc, hkindc, Option.some.injEq, exists_eq_left']
  refine W.newArray_of hkc hkindc hl hh h1 h2 hdf fun acts' => ?_
  have := hq acts'
  rw [← arrV_new] at this
  exact this
theorem mm_make2 {T : State} {g2 : JFrame} (X : Stand p l e R s m args below meth c T locs cells slots) (hs : s.heap.size ≤ T.heap.size) {E : CtlPost} {d : Bool} {acts : List Action} {cA cB cc : ClassId} {kA kc : Class} {ty : FieldType} {n k : Int32} (hkA : T.vm.classes[cA]? = some kA) (hkindA : kA.kind = .array cB (.array ty)) (hkc : T.vm.classes[cB]? = some kc) (hkindc : kc.kind = .array cc ty) (hn : ¬ n < 0) (hk : ¬ k < 0)
    (hl1 : ¬ n.toNatClampNeg > e.platform.arrayLengthLimit) (hh1 : ¬ n.toNatClampNeg * componentBytes (.array ty) > e.platform.maxHeapBytes) (hl2 : ¬ k.toNatClampNeg > e.platform.arrayLengthLimit) (hh2 : ¬ k.toNatClampNeg * componentBytes ty > e.platform.maxHeapBytes) (hdf : fits ty (defaultValue ty) = true)
    (hcells : cells + (1 + n.toNatClampNeg) ≤ R.cells) (hslots : slots + (n.toNatClampNeg + n.toNatClampNeg * k.toNatClampNeg) ≤ R.slots) {Qp : Addr → Pre}
    (hq : ∀ d' acts' U, mm_J p l e R s m args below meth c T locs cells slots cA cB n.toNatClampNeg k.toNatClampNeg (defaultValue ty) n.toNatClampNeg U → Qp T.heap.size d' acts' (U.setTop g2)) : wp (multianewarray.make cA [n, k]) Qp E e d acts (T.setTop g2) := by
  have hfind : ([k].find? (· < 0)) = none := by simp [hk]
  obtain ⟨r1, r2⟩ := X.roomAbove hcells hslots
  have hkA' : (T.setTop g2).vm.classes[cA]? = some kA := hkA
  rw [multianewarray.make]
  simp only [wp_bind', W.ite, hn, if_false, wp_pure', W.theClass, hkA', hkindA, Option.some.injEq, exists_eq_left']
  refine W.newArray_of hkA' hkindA hl1 hh1 (by show T.heap.size < _; omega) (by show T.slotsUsed + _ ≤ _; omega) rfl fun acts1 => ?_
  simp only [hfind]
  rw [ite_self, wp_bind', Std.Legacy.Range.forIn_eq_forIn_range']
  have hsz : ([:n.toNatClampNeg] : Std.Legacy.Range).size = n.toNatClampNeg := by simp [Std.Legacy.Range.size]
  rw [hsz]
  show wp (forIn (List.range' 0 n.toNatClampNeg 1) PUnit.unit _) _ E e d acts1 _
  refine wp_forIn_inv (fun rest s' => ∃ i U, i ≤ n.toNatClampNeg ∧ rest = List.range' i (n.toNatClampNeg - i) ∧ s' = State.setTop U g2 ∧ mm_J p l e R s m args below meth c T locs cells slots cA cB n.toNatClampNeg k.toNatClampNeg (defaultValue ty) i U) _ _ ⟨0, T.pushCell (arrV cA n.toNatClampNeg fun _ => .null), Nat.zero_le _, rfl, by rw [← arrV_new]; rfl, mm_J0 X⟩ ?_ ?_
  · rintro x rest s' d' acts' Q' ⟨i, U, hi, hl, rfl, hJ⟩ hnext
    have hlt : i < n.toNatClampNeg := by
      rcases Nat.lt_or_ge i n.toNatClampNeg with h | h
      · exact h
      · rw [show n.toNatClampNeg - i = 0 from by omega] at hl
        simp at hl
    obtain ⟨rfl, hrest⟩ : x = i ∧ rest = List.range' (i + 1) (n.toNatClampNeg - (i + 1)) := by
      rw [show n.toNatClampNeg - i = (n.toNatClampNeg - (i + 1)) + 1 from by omega, List.range'_succ] at hl
      exact ⟨(List.cons.inj hl).1, (List.cons.inj hl).2⟩
    have hJ2 := mm_Js hs hJ
    obtain ⟨XU, z, h1, h2, h3, h4, -⟩ := hJ
    have hmul : x * k.toNatClampNeg + k.toNatClampNeg ≤ n.toNatClampNeg * k.toNatClampNeg := by
      have := Nat.mul_le_mul_right k.toNatClampNeg (show x + 1 ≤ n.toNatClampNeg from hlt)
      rw [Nat.succ_mul] at this
      exact this
    obtain ⟨u1, u2⟩ := XU.roomAbove (a := 1) (b := k.toNatClampNeg) (by omega) (by omega)
    have hkc' : (State.setTop U g2).vm.classes[cB]? = some kc := by
      show U.vm.classes[cB]? = _
      rw [h4]
      exact hkc
    simp only [wp_bind']
    refine mm_make1 hkc' hkindc hk hl2 hh2 hdf u1 u2 fun acts2 => ?_
    have hlt0 : T.heap.size < U.heap.size := by omega
    simp only [wp_bind', W.writeLoc, wp_pure']
    refine ⟨mm_out cA n.toNatClampNeg T.heap.size x, by show (U.pushCell _).heap[T.heap.size]? = _; rw [State.heap_pushCell_of_lt (h := hlt0)]; exact h1, by simp [mm_out, arrV], by unfold mm_out; rw [arrV_size]; exact hlt, ?_, hnext _ _ _ ⟨x + 1, _, hlt, hrest, ?_, hJ2⟩⟩
    · have hk4 : U.vm.classes[cA]? = some kA := by rw [h4]; exact hkA
      simp [State.fitsSlot, State.slotType?, mm_out, arrV, hk4, hkindA, fits]
    · rfl
  · rintro s' d' acts' ⟨i, U, hi, hl, rfl, hJ⟩
    have hiN : i = n.toNatClampNeg := by
      rcases Nat.lt_or_ge i n.toNatClampNeg with h | h
      · rw [show n.toNatClampNeg - i = (n.toNatClampNeg - (i + 1)) + 1 from by omega, List.range'_succ] at hl
        cases hl
      · omega
    subst hiN
    simp only [wp_pure']
    exact hq _ _ _ hJ
section MM2
variable {cc : ByteArray} {pc : Nat} {ls : Array Slot} {rest : List Value} {D : va_G} {cl : List vw_C} {A : Nat → Prop} {tys : List (ClassId × FieldType)} {ws : va_W} {H0 : Heap}
/-- THE ROW -/
theorem mm_multi (hexec : p.tables.exec = Jvm.exec) (hb : c.code = cc) {own : String} {index : Nat} {ty : FieldType} (hown : s.vm.findClass own = some m.cls) (hclink : (Cond.classLink own index ("[" ++ (FieldType.array ty).toString)).before args s = true) (hover : mm_AO ty s) (harr : (Cond.arrayClass ty).before args s = true)
    (hK : va_K D cl tys s) (hP : va_P D cl ws H) (hD : va_D A ws) (hS : va_S A H0 H locs) (hA : ∀ q, H0.size ≤ q → A q) (hs0 : H0.size = s.heap.size) {n k : Int32} {N M : Nat} (hn : ¬ n < 0) (hk : ¬ k < 0) (hN : n.toNatClampNeg = N) (hM : k.toNatClampNeg = M) (hb1 : N * 4 ≤ 536870912) (hb2 : M * componentBytes ty ≤ 536870912) (hb3 : M ≤ 536870912)
    (hdf : fits ty (defaultValue ty) = true) (hprim : ty = .int ∨ ty = .long) {a0 : vp_A} (ha0 : ∀ cB : ClassId, vp_cell cB a0 = arrV cB M fun _ => defaultValue ty) (hcells : cells + (1 + N) ≤ R.cells) (hslots : slots + (N + N * M) ≤ R.slots) (hdg : decode cc pc = .ok (.multianewarray index 2, 4))
    (kk : ∀ (q : Nat) (cA cB : ClassId) (H1 : Heap), va_K D cl (tys ++ [(cA, .array ty), (cB, ty)]) s → va_P D cl (ws ++ mm_L q N cA cB a0) H1 → va_D A (ws ++ mm_L q N cA cB a0) → va_S A H0 H1 locs →
      W p l e R s m args below meth c H1 locs (cells + (1 + N)) (slots + (N + N * M)) Q (F0 m (pc + 4) ls (.ref q :: rest))) : W p l e R s m args below meth c H locs cells slots Q (F0 m pc ls (.int k :: .int n :: rest)) := by
  subst hN
  subst hM
  intro T hT X
  have hsz : s.heap.size ≤ T.heap.size := by rw [hT, ← hs0]; exact hS.1
  have hpl : e.platform.magicAccessors = ({} : Platform).magicAccessors := by rw [X.admits.platform]
  obtain ⟨cB, cA, kA, hcB, hkA, hkindA, hnA⟩ := hover
  obtain ⟨cB', kC, cC, hcB', hkC, hkindC⟩ := Cond.arrayClass_spec harr
  have ecB : cB' = cB := Option.some.inj (hcB'.symm.trans hcB)
  subst ecB
  obtain ⟨c0, hfc0, hcl⟩ := Cond.classLink_spec hown hclink e.platform hpl
  cases hnA.symm.trans hfc0
  obtain ⟨hg₁, hwarm₁, hready₁⟩ := State.classEntry (e := e) X.warmed hcl
  generalize T.vm.noted m.cls index (.cls cA) = vm₁ at hg₁ hwarm₁ hready₁
  have hal : s.vm.Alike vm₁ := hwarm₁.alike
  obtain ⟨kA₁, hkA₁, heA⟩ := hal.2.2 _ _ hkA
  obtain ⟨kC₁, hkC₁, heC⟩ := hal.2.2 _ _ hkC
  have hkindA₁ : kA₁.kind = .array cB' (.array ty) := by rw [heA]; exact hkindA
  have hkindC₁ : kC₁.kind = .array cC ty := by rw [heC]; exact hkindC
  have X₁ := X.noted hwarm₁
  have hl1 : ¬ n.toNatClampNeg > e.platform.arrayLengthLimit := by rw [Launch.admits_arrayLengthLimit X.admits]; omega
  have hh1 : ¬ n.toNatClampNeg * componentBytes (.array ty) > e.platform.maxHeapBytes := by
    rw [Launch.admits_maxHeapBytes X.admits]
    show ¬ n.toNatClampNeg * 4 > 536870912
    omega
  have hl2 : ¬ k.toNatClampNeg > e.platform.arrayLengthLimit := by rw [Launch.admits_arrayLengthLimit X.admits]; omega
  have hh2 : ¬ k.toNatClampNeg * componentBytes ty > e.platform.maxHeapBytes := by rw [Launch.admits_maxHeapBytes X.admits]; omega
  have kk2 : ∀ U, mm_J p l e R s m args below meth c (T.setVm vm₁) locs cells slots cA cB' n.toNatClampNeg k.toNatClampNeg (defaultValue ty) n.toNatClampNeg U → ∃ t, Steps p.tables e below (U.setTop (F0 m (pc + 4) ls (.ref H.size :: rest))) t ∧ Q t := by
    intro U ⟨XU, z, h1, h2, h3, h4, _⟩
    have hz : (T.setVm vm₁).heap.size = H.size := by rw [← hT]; rfl
    rw [hz] at z h1 h2 h3
    have h3' : ∀ a, a < H.size → U.heap[a]? = H[a]? := fun a ha => (h3 a ha).trans (by rw [← hT]; rfl)
    refine kk H.size cA cB' U.heap ⟨hK.1, fun i x hx => ?_⟩ ?_ ?_ ⟨Nat.le_trans hS.1 (by omega), fun a g1 g2 => (h3' a (Nat.lt_of_lt_of_le g1 hS.1)).trans (hS.2.1 a g1 g2), hS.2.2⟩ U rfl XU
    · by_cases hl : i < tys.length
      · rw [List.getElem?_append_left hl] at hx
        exact hK.2 i x hx
      · rw [List.getElem?_append_right (by omega)] at hx
        have hz2 : i - tys.length < 2 := (List.getElem?_eq_some_iff.mp hx).1
        rcases (show i - tys.length = 0 ∨ i - tys.length = 1 by omega) with e0 | e0
        · rw [e0] at hx
          cases hx
          exact ⟨fun n z => ⟨fun k h => (by cases h), kA, hkA, cB', hkindA⟩, hnA⟩
        · rw [e0] at hx
          cases hx
          refine ⟨fun n z => ⟨fun k h => (by cases h), kC, hkC, cC, hkindC⟩, ?_⟩
          rcases hprim with rfl | rfl
          · exact hcB
          · exact hcB
    · refine (hP.kept fun i x hx => h3' x.1 (hP i x hx).lt).app fun i x hx => ?_
      rcases mm_L_at hx with ⟨-, rfl⟩ | ⟨j, -, hj, rfl⟩
      · show U.heap[H.size]? = some (vp_cell cA _)
        rw [h1]
        congr 1
        unfold mm_out vp_cell
        dsimp only
        congr 1
        funext j
        by_cases hj : j < n.toNatClampNeg
        · rw [if_pos hj, if_pos hj]
          rfl
        · rw [if_neg hj, if_neg hj]
          rfl
      · show U.heap[H.size + 1 + j]? = some (vp_cell cB' a0)
        rw [h2 j hj, ha0]
    · refine va_D.app hD ⟨fun i j x y hx hy he => ?_, fun i x hx => ?_⟩ fun i j x y hx hy he => ?_
      · rcases mm_L_at hx with ⟨rfl, rfl⟩ | ⟨i', rfl, hi, rfl⟩
        · rcases mm_L_at hy with ⟨rfl, rfl⟩ | ⟨j', rfl, hj, rfl⟩
          · rfl
          · dsimp only at he
            omega
        · rcases mm_L_at hy with ⟨rfl, rfl⟩ | ⟨j', rfl, hj, rfl⟩
          · dsimp only at he
            omega
          · dsimp only at he
            omega
      · have h5 : H.size ≤ x.1 := by
          rcases mm_L_at hx with ⟨-, rfl⟩ | ⟨i', -, hi, rfl⟩
          · exact Nat.le_refl _
          · show H.size ≤ H.size + 1 + i'
            omega
        exact hA _ (Nat.le_trans hS.1 h5)
      · have h5 : H.size ≤ y.1 := by
          rcases mm_L_at hy with ⟨-, rfl⟩ | ⟨i', -, hi, rfl⟩
          · exact Nat.le_refl _
          · show H.size ≤ H.size + 1 + i'
            omega
        have := (hP i x hx).lt
        omega
  have XF := mm_J_all (cA := cA) (cB := cB') (N := n.toNatClampNeg) (M := k.toNatClampNeg) (dv := defaultValue ty) X₁ hsz n.toNatClampNeg
  obtain ⟨t, a1, b1⟩ := kk2 _ XF
  refine ⟨t, ?_, b1⟩
  have XF1 := XF.1
  subst hb
  have hdg2 : decode c.code (F0 m pc ls (.int k :: .int n :: rest)).pc = .ok (.multianewarray index 2, 4) := hdg
  jvm_step X.here [hexec, hdg2]
  simp only [multianewarray.sem, wp_bind', W.resolveClassAt_links (State.method?_setTop (F0 m pc ls (.int k :: .int n :: rest)) X.here.top) hg₁]
  rw [W.popN, if_neg (by decide)]
  refine ⟨F0 m pc ls (.int k :: .int n :: rest), State.topJava?_setTop' (s := T.setVm vm₁) (F0 m pc ls (.int k :: .int n :: rest)) X.here.top, [.int n, .int k], rest, rfl, rfl, ?_⟩
  simp only [List.mapM_cons, List.mapM_nil, wp_bind', wp_pure']
  have eS : ((T.setTop (F0 m pc ls (.int k :: .int n :: rest))).setVm vm₁).setTop (F0 m pc ls rest) = (T.setVm vm₁).setTop (F0 m pc ls rest) := by
    show ((T.setVm vm₁).setTop _).setTop _ = _
    rw [State.setTop_setTop]
  show wp _ _ _ _ _ _ (((T.setTop (F0 m pc ls (.int k :: .int n :: rest))).setVm vm₁).setTop (F0 m pc ls rest))
  rw [eS]
  refine mm_make2 X₁ hsz hkA₁ hkindA₁ hkC₁ hkindC₁ hn hk hl1 hh1 hl2 hh2 hdf hcells hslots fun d' acts' U hU => ?_
  have eU := hU.2.2.2.2.2.2
  subst eU
  simp only [wp_bind', W.mark, W.pushRef, State.topJava?_setTop' _ XF1.here.top, Option.some.injEq, exists_eq_left', State.setTop_setTop, State.heap_setTop]
  intro acts
  have eH : (T.setVm vm₁).heap.size = H.size := by rw [← hT]; rfl
  rw [eH]
  simp [jvm, XF1.here.top]
  exact a1
end MM2
end MM
