/-! what is checked of each instruction, and that the walk W follows the small machine -/
/-- no String constant is reached here -/
def mx_Str (_ : Nat → Nat) (_ : Nat → Prop) (_ : State) (_ : Heap) : Prop := True
theorem mx_Str.call {ad : Nat → Nat} {A A' : Nat → Prop} {s U : State} {H : Heap} {locs : List Loc} (_ : mx_Str ad A s s.heap) (_ : va_S A s.heap H locs) (_ : ∀ q, A' q → A q) (_ : s.WarmedH U.vm) (_ : U.heap = H) : mx_Str ad A' U U.heap := trivial
theorem mx_Str.blind {ad : Nat → Nat} {A : Nat → Prop} {U : State} {g : JFrame} {mk : MethodId} {a : Array Value} (_ : mx_Str ad A U U.heap) : mx_Str ad A (U.calling g mk a) (U.calling g mk a).heap := trivial
/-- the tables: field links (own, index, class, field); method links (own, index, method) ; int, long and double constants (own, index, value's notes) -/
abbrev mx_T : Type := List (String × Nat × Nat × Nat) × List (String × Nat × Nat) × List (String × Nat × Nat × Nat) × List (String × Nat × Nat × Nat) × List (String × Nat × Nat)
def mx_okI (T : mx_T) (mt : Nat → Option mx_M) (own : String) (nL : Nat) (ret : Option FieldType) (pc : Nat) (e : mx_E) : Bool :=
  match e with
  | (ins, len, a, b, c, d, f) =>
  match ins with
  | .iconst n => len == 1 && decide (Int32.ofInt n = mx_cI a b)
  | .bipush n => len == 2 && decide ((Int8.ofInt n).toInt32 = mx_cI a b)
  | .sipush n => len == 3 && decide ((Int16.ofInt n).toInt32 = mx_cI a b)
  | .ldc i => len == 2 && decide ((own, i, a, b) ∈ T.2.2.1)
  | .ldc_w i => len == 3 && decide ((own, i, a, b) ∈ T.2.2.1)
  | .ldc2_w i => len == 3 && (match d with
    | 0 => decide ((own, i, a, b) ∈ T.2.2.2.1)
    | _ => decide ((own, i, a) ∈ T.2.2.2.2))
  | .lconst n => len == 1 && decide (Int64.ofNat (n : Nat) = mx_cL a b)
  | .dconst n => len == 1 && decide ((n : Nat) = a)
  | .iload i | .lload i | .dload i | .aload i => len == 2 && decide (i = a)
  | .iload_n i | .lload_n i | .dload_n i | .aload_n i => len == 1 && decide ((i : Nat) = a)
  | .istore i | .astore i => len == 2 && decide (i = a) && decide (a < nL)
  | .istore_n i | .astore_n i => len == 1 && decide ((i : Nat) = a) && decide (a < nL)
  | .lstore i | .dstore i => len == 2 && decide (i = a) && decide (a + 1 < nL)
  | .lstore_n i | .dstore_n i => len == 1 && decide ((i : Nat) = a) && decide (a + 1 < nL)
  | .iinc i n => len == 3 && decide (i = a) && decide (a < nL) && decide (Int32.ofInt n = mx_cI b c)
  | .goto o | .if_icmp _ o | .ifCond _ o => len == 3 && decide ((pc : Int) + o = (a : Int))
  | .getfield i => len == 3 && decide (T.1[c]? = some (own, i, a, b))
  | .putfield i => len == 3 && decide (T.1[c]? = some (own, i, a, b)) && (match vwCl[a]? with
    | some q => decide ((q.2.1 b).2.2.2 = false) && (match d with
      | 0 => decide (parseFieldDescriptor (q.2.1 b).2.2.1 = some .int)
      | _ => decide (parseFieldDescriptor (q.2.1 b).2.2.1 = some .boolean))
    | none => false)
  | .invokevirtual i => len == 3 && (match d with
    | 0 => decide (T.2.1[c]? = some (own, i, a)) && (match mt a with
      | some m => m.2.2.2.2.1 == false && decide ((vwCl[f]?).map (fun q => q.1) = some m.1.cls) && decide ((parseMethodDescriptor m.1.desc).map (fun d => d.parameters.length + 1) = some b)
      | none => false)
    | _ => false)
  | .invokestatic i => len == 3 && (match d with
    | 1 => decide (T.2.1[c]? = some (own, i, a)) && (match mt a with
      | some m => m.2.2.2.2.1 == true && decide ((parseMethodDescriptor m.1.desc).map (fun d => d.parameters.length) = some b)
      | none => false)
    | 2 => decide (T.2.1[c]? = some (own, i, 1002))
    | 6 => decide (T.2.1[c]? = some (own, i, 1006))
    | 7 => decide (T.2.1[c]? = some (own, i, 1007))
    | 8 => decide (T.2.1[c]? = some (own, i, 1008))
    | _ => false)
  | .ireturn => len == 1 && (match d with
    | 0 => decide (ret = some .int)
    | _ => decide (ret = some .boolean))
  | .lreturn => len == 1 && decide (ret = some .long)
  | .areturn => len == 1 && (match ret with
    | some (.array _) => true
    | _ => false)
  | .tableswitch df lo hi os => decide (a = pc) && (decide (0 ≤ (pc : Int) + df) && os.all fun o => decide (0 ≤ (pc : Int) + o))
  | .dreturn => len == 1 && decide (ret = some .double)
  | .return_ => len == 1 && decide (ret = none)
  | _ => len == 1
def mx_okE (T : mx_T) (mt : Nat → Option mx_M) (own : String) (bytes : ByteArray) (nL : Nat) (ret : Option FieldType) (pc : Nat) (e : mx_E) : Bool :=
  match e.1 with
  | .nop => decide (e.2.2.1 = pc)
  | _ => decide (decode bytes pc = .ok (e.1, e.2.1)) && mx_okI T mt own nL ret pc e
def mx_okB (T : mx_T) (mt : Nat → Option mx_M) (own : String) (bytes : ByteArray) (nL : Nat) (ret : Option FieldType) : Nat → List mx_E → Bool
  | _, [] => true
  | pc, e :: r => mx_okE T mt own bytes nL ret pc e && mx_okB T mt own bytes nL ret (pc + e.2.1) r
def mx_okM (T : mx_T) (mt : Nat → Option mx_M) (m : mx_M) : Bool := decide (m.2.2.1 ≤ 21) && plainName m.1.cls && m.2.2.2.2.2.all fun q => mx_okB T mt m.1.cls m.2.1 m.2.2.1 m.2.2.2.1 q.1 q.2
def mx_rmc (d mc ms : Nat) : Room := { frames := d, cells := mc, slots := ms, locals := 40 * d }
abbrev mx_rm (d : Nat) : Room := mx_rmc d 0 0
def mx_ws (big : List Jvm.Cond) (m : mx_M) : List Jvm.Cond := Jvm.Cond.code m.1 m.2.1 m.2.2.1 m.2.2.2.1 :: big
/-- what the tables' words must say -/
def mx_Hy (T : mx_T) (mt : Nat → Option mx_M) (big : List Jvm.Cond) : Prop :=
  (∀ q ∈ T.1, ∃ C TT N, vwCl[q.2.2.1]? = some (C, TT, N) ∧ q.2.2.2 < N ∧ (TT q.2.2.2).1 = C ∧ Jvm.Cond.fieldLink q.1 q.2.1 C (TT q.2.2.2).2.1 (TT q.2.2.2).2.2.1 ∈ big) ∧
  (∀ q ∈ T.2.1, ∀ m, mt q.2.2 = some m → Jvm.Cond.methodLink q.1 q.2.1 m.1 ∈ big) ∧
  (∀ q ∈ T.2.1, q.2.2 = 1002 → Jvm.Cond.methodLink q.1 q.2.1 arraycopyName ∈ big) ∧
  (∀ q ∈ T.2.1, q.2.2 = 1008 → Jvm.Cond.methodLink q.1 q.2.1 Lib.MathLoose.min_long.x ∈ big) ∧
  (∀ q ∈ T.2.1, q.2.2 = 1006 → Jvm.Cond.methodLink q.1 q.2.1 Lib.Math.max.name ∈ big) ∧
  (∀ q ∈ T.2.1, q.2.2 = 1007 → Jvm.Cond.methodLink q.1 q.2.1 Lib.Math.min.name ∈ big) ∧
  (Jvm.Cond.static Lib.Math.max.name ∈ big ∧ Jvm.Cond.static Lib.Math.min.name ∈ big ∧ Jvm.Cond.initialized "java/lang/Math" ∈ big ∧ Jvm.Cond.code Lib.Math.max.name Lib.Math.max.code 2 (some .int) ∈ big ∧ Jvm.Cond.code Lib.Math.min.name Lib.Math.min.code 2 (some .int) ∈ big) ∧
  (∀ q ∈ T.2.2.1, Jvm.Cond.constant q.1 q.2.1 (mx_cI q.2.2.1 q.2.2.2) ∈ big) ∧
  (∀ q ∈ T.2.2.2.1, Jvm.Cond.constantLong q.1 q.2.1 (mx_cL q.2.2.1 q.2.2.2) ∈ big) ∧
  (∀ q ∈ T.2.2.2.2, Jvm.Cond.constantDouble q.1 q.2.1 (mx_cD q.2.2) ∈ big) ∧
  (Jvm.Cond.native arraycopyName ∈ big ∧ Jvm.Cond.static arraycopyName ∈ big ∧ Jvm.Cond.initialized "java/lang/System" ∈ big) ∧
  (Jvm.Cond.static Lib.MathLoose.min_long.x ∈ big ∧ Jvm.Cond.code Lib.MathLoose.min_long.x Lib.MathLoose.min_long.code 4 (some .long) ∈ big) ∧
  (∀ (ci : Nat) (C : String) (TT : u_T) (N : Nat), vwCl[ci]? = some (C, TT, N) → (∀ w ∈ u_ws C TT N, w ∈ big) ∧ (∃ ty0 : Nat → FieldType, ∀ k, k < N → parseFieldDescriptor (TT k).2.2.1 = some (ty0 k)) ∧ ∀ a, a < N → ∀ b, b < N → a ≠ b → (TT a).2.1 ≠ (TT b).2.1) ∧
  (∀ id m, mt id = some m → mx_okM T mt m = true ∧ Jvm.Cond.code m.1 m.2.1 m.2.2.1 m.2.2.2.1 ∈ big ∧ Jvm.Cond.initialized m.1.cls ∈ big ∧ (m.1.cls ≠ "java/lang/invoke/MethodHandle" ∧ m.1.cls ≠ "java/lang/invoke/VarHandle") ∧ (if m.2.2.2.2.1 = true then Jvm.Cond.static m.1 ∈ big else Jvm.Cond.instanceMethod m.1 ∈ big ∧ Jvm.Cond.selects m.1.cls m.1 m.1 ∈ big)) ∧
  (∀ w ∈ big, goodWord w = true)
def mx_Pc (ad : Nat → Nat) (cA : Nat → ClassId) (D : va_G) (lay : mx_Lay) (sz : Nat) (as : List Value) (w : mx_Wd) : Array Value → State → Prop := va_Pc (as.map (mx_cv ad)) (fun U => U.heap.size = sz ∧ va_P D vwCl (mx_cc ad cA lay w) U.heap ∧ mx_K D cA lay U ∧ va_D (fun _ => True) (mx_cc ad cA lay w) ∧ mx_Str ad (va_A (mx_cc ad cA lay w) sz) U U.heap)
def mx_Qc (ad : Nat → Nat) (cA : Nat → ClassId) (D : va_G) (lay : mx_Lay) (Qa : mx_Po) (A : Nat → Prop) : Array Value → State → Outcome → State → Prop := fun _ st oc t => (∃ v w', oc = .returned (v.map (mx_cv ad)) ∧ Qa v w' ∧ va_P D vwCl (mx_cc ad cA lay w') t.heap) ∧ va_F A st t
/-- a call's contract -/
def mx_Ok (mt : Nat → Option mx_M) (big : List Jvm.Cond) (lay : mx_Lay) (l : Launch) (d : Nat) (id : Nat) (as : List Value) (w : mx_Wd) (Qa : mx_Po) : Prop := ∃ m, mt id = some m ∧
  ∀ (ad : Nat → Nat) (cA : Nat → ClassId) (D : va_G) (sz : Nat), Met l m.1 (mx_ws big m) (mx_rm d) (mx_Pc ad cA D lay sz as w) (mx_Qc ad cA D lay Qa (va_A (mx_cc ad cA lay w) sz)) 0 0 (va_A (mx_cc ad cA lay w) sz)
theorem mx_Pc_blind {ad : Nat → Nat} {cA : Nat → ClassId} {D : va_G} {lay : mx_Lay} {sz : Nat} {as : List Value} {w : mx_Wd} : FrameBlind (mx_Pc ad cA D lay sz as w) := by
  intro a U g mk ⟨h0, h1, h2, h3, h4, h5⟩
  exact ⟨h0, h1, h2, mx_K.moved (u := U) (U := U.calling g mk a) (Vm.Alike.refl U.vm) h3, h4, h5.blind⟩
section MXS
variable {p : Program} {l : Launch} {e : Env} {R : Room} {s : State} {m : MethodId} {args : Array Value} {below : List Frame} {meth : Method} {c : Code} {H : Heap} {locs : List Loc} {cells slots : Nat} {Q : State → Prop}
variable {pc : Nat} {ls : Array Slot} {rest st0 : List Value} {ar : Array Value} {A0 A1 : Nat → Prop} {H0 : Heap} {mc ms : Nat} {free : Addr → Prop}
/-- behind a call of a contract -/
theorem mx_callW {ad : Nat → Nat} {cA : Nat → ClassId} {D : va_G} {lay : mx_Lay} {Qa : mx_Po} (hr : va_Run p l e R s m args below meth c H locs cells slots 0 0 (F0 m pc ls st0) rest (mx_Qc ad cA D lay Qa A1 ar) free) (hS : va_S A0 H0 H locs) (hA : ∀ q, q < H.size → A1 q → A0 q) (hf : ∀ q, free q → A0 q)
    (kk : ∀ (v : Option Value) (w' : mx_Wd) (H1 : Heap) (locs1 : List Loc), Qa v w' → va_P D vwCl (mx_cc ad cA lay w') H1 → va_S A0 H0 H1 locs1 → W p l e R s m args below meth c H1 locs1 cells slots Q (F0 m (pc + 3) ls ((v.map (mx_cv ad)).toList ++ rest))) : W p l e R s m args below meth c H locs cells slots Q (F0 m pc ls st0) := by
  intro T hT X
  obtain ⟨v, st₀, t, T', L, h0, X', hL, e1, e2, ⟨⟨v', w', hv, hp, hb⟩, hz, hk⟩, st⟩ := hr T hT X
  cases hv
  rw [h0] at hz hk
  obtain ⟨t2, a1, b1⟩ := kk v' w' T'.heap (locs ++ L) hp (by rw [e1]; exact hb)
    ⟨Nat.le_trans hS.1 (by rw [e1]; exact hz), fun q h1 h2 => by rw [e1, hk q (Nat.lt_of_lt_of_le h1 hS.1) (fun z => h2 (hA q (Nat.lt_of_lt_of_le h1 hS.1) z))]; exact hS.2.1 q h1 h2, fun q hq => by
      rcases List.mem_append.mp hq with h | h
      · exact hS.2.2 q h
      · exact hf _ (hL q h)⟩ T' rfl X'
  exact ⟨t2, st t2 a1, b1⟩
end MXS
theorem mx_cats : ∀ (r : List Value), (r.map fun v => v.category).sum ≤ 2 * r.length
  | [] => Nat.le_refl _
  | v :: r => by
    have := mx_cats r
    have h2 : v.category ≤ 2 := by cases v <;> simp [Value.category]
    simp only [List.map_cons, List.sum_cons, List.length_cons]
    omega
theorem mx_cats8 {r : List Value} {ad : Nat → Nat} (h : mx_l8 r) : ((r.map (mx_cv ad)).map fun v => v.category).sum ≤ 8 := by
  have e : (r.map (mx_cv ad)).map (fun v => v.category) = r.map fun v => v.category := by
    rw [List.map_map]
    exact List.map_congr_left fun v _ => mx_cv_cat ad v
  rw [e]
  exact h
