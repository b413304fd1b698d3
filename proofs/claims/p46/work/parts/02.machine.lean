/-! A small machine over worlds whose references never change: a layout says which cell is what, the numbers stand in functions.
A method's code is cut into blocks; mx_wl is the least predicate closed under the blocks (total correctness); 03 ties it to the walk W. -/
/-- ins, len, and notes: a b c d f -/
abbrev mx_E : Type := Instr × Nat × Nat × Nat × Nat × Nat × Nat
abbrev mx_Lo : Type := List (Option Value)
abbrev mx_Wd : Type := (Nat → Nat → Int32) × (Nat → Nat → Int32) × (Nat → Nat → Int64) × (Nat → Nat → UInt64)
abbrev mx_J : Type := Nat → mx_Lo → List Value → mx_Wd → Prop
abbrev mx_Po : Type := Option Value → mx_Wd → Prop
abbrev mx_Ga : Type := Nat → List Value → mx_Wd → mx_Po → Prop
abbrev mx_Kt : Type := mx_Lo → List Value → mx_Wd → Prop
/-- .inl (class, fields: some k a reference to cell k, none a number); .inr (kind, length, references) kinds: 0 int, 1 boolean, 2 long, 3 double, 4 int[], 5 long[] -/
abbrev mx_Lay : Type := List ((Nat × List (Option Nat)) ⊕ (Nat × Nat × List Nat))
def mx_F (w : mx_Wd) (k j : Nat) : Int32 := w.1 k j
def mx_A (w : mx_Wd) (k : Nat) : Nat → Int32 := w.2.1 k
def mx_L (w : mx_Wd) (k : Nat) : Nat → Int64 := w.2.2.1 k
def mx_D (w : mx_Wd) (k : Nat) : Nat → UInt64 := w.2.2.2 k
def mx_sF (w : mx_Wd) (k j : Nat) (x : Int32) : mx_Wd := (fun a b => if a = k ∧ b = j then x else w.1 a b, w.2)
def mx_sA (w : mx_Wd) (k : Nat) (f : Nat → Int32) : mx_Wd := (w.1, fun a => if a = k then f else w.2.1 a, w.2.2)
def mx_sL (w : mx_Wd) (k : Nat) (f : Nat → Int64) : mx_Wd := (w.1, w.2.1, fun a => if a = k then f else w.2.2.1 a, w.2.2.2)
def mx_sD (w : mx_Wd) (k : Nat) (f : Nat → UInt64) : mx_Wd := (w.1, w.2.1, w.2.2.1, fun a => if a = k then f else w.2.2.2 a)
/-- constants: 0: plus, 1: minus -/
def mx_cI (a : Nat) (b : Nat) : Int32 := match b with
  | 0 => nI a
  | _ => -(nI a)
def mx_cL (a : Nat) (b : Nat) : Int64 := match b with
  | 0 => lN a
  | _ => -(lN a)
def mx_cD (a : Nat) : UInt64 := UInt64.ofNat a
def mx_gl : mx_Lo → Nat → Option Value
  | [], _ => none
  | o :: _, 0 => o
  | _ :: r, n + 1 => mx_gl r n
def mx_gI (l : mx_Lo) (i : Nat) (k : Int32 → Prop) : Prop := match mx_gl l i with
  | some (.int x) => k x
  | _ => False
def mx_gL (l : mx_Lo) (i : Nat) (k : Int64 → Prop) : Prop := match mx_gl l i with
  | some (.long x) => k x
  | _ => False
def mx_gD (l : mx_Lo) (i : Nat) (k : UInt64 → Prop) : Prop := match mx_gl l i with
  | some (.double x) => k x
  | _ => False
def mx_gR (l : mx_Lo) (i : Nat) (k : Nat → Prop) : Prop := match mx_gl l i with
  | some (.ref x) => k x
  | _ => False
def mx_pI (st : List Value) (k : Int32 → List Value → Prop) : Prop := match st with
  | .int x :: r => k x r
  | _ => False
def mx_pL (st : List Value) (k : Int64 → List Value → Prop) : Prop := match st with
  | .long x :: r => k x r
  | _ => False
def mx_pD (st : List Value) (k : UInt64 → List Value → Prop) : Prop := match st with
  | .double x :: r => k x r
  | _ => False
def mx_pR (st : List Value) (k : Nat → List Value → Prop) : Prop := match st with
  | .ref x :: r => k x r
  | _ => False
/-- a value of one slot on top -/
def mx_p1 (st : List Value) (k : Value → List Value → Prop) : Prop := match st with
  | .int x :: r => k (.int x) r
  | .ref x :: r => k (.ref x) r
  | _ => False
def mx_nil (st : List Value) (P : Prop) : Prop := match st with
  | [] => P
  | _ => False
/-- a store at a slot kills a long or double that begins at the slot before -/
def mx_cp (l : mx_Lo) (i : Nat) : mx_Lo := match i with
  | 0 => l
  | i + 1 => match mx_gl l i with
    | some (.long _) => l.set i none
    | some (.double _) => l.set i none
    | _ => l
def mx_cmp (c : ClassFile.Cond) (x y : Int32) : Prop := match c with
  | .eq => x = y
  | .ne => x ≠ y
  | .lt => x < y
  | .ge => y ≤ x
  | .gt => y < x
  | .le => x ≤ y
def mx_fld (lay : mx_Lay) (k ci j : Nat) : Option (Option Nat) := match lay[k]? with
  | some (.inl (c, fs)) => if c = ci then fs[j]? else none
  | _ => none
def mx_arr (lay : mx_Lay) (k : Nat) : Option (Nat × Nat × List Nat) := match lay[k]? with
  | some (.inr q) => some q
  | _ => none
def mx_isO (lay : mx_Lay) (k ci : Nat) : Bool := match lay[k]? with
  | some (.inl (c, _)) => c == ci
  | _ => false
def mx_wF (o : Option (Option Nat)) (kr : Nat → Prop) (ki : Prop) : Prop := match o with
  | some (some k) => kr k
  | some none => ki
  | none => False
def mx_wA (o : Option (Nat × Nat × List Nat)) (kind : Nat) (k : Nat → Prop) : Prop := match o with
  | some (kd, n, _) => kd = kind ∧ k n
  | none => False
def mx_wR (o : Option (Nat × Nat × List Nat)) (k : Nat → List Nat → Prop) : Prop := match o with
  | some (kd, n, rs) => 4 ≤ kd ∧ k n rs
  | none => False
def mx_wO (o : Option Nat) (k : Nat → Prop) : Prop := match o with
  | some x => k x
  | none => False
def mx_l8 (r : List Value) : Prop := (r.map fun v => v.category).sum ≤ 8
def mx_popn (st : List Value) (n : Nat) (k : List Value → List Value → Prop) : Prop :=
  n ≤ st.length ∧ mx_l8 (st.drop n) ∧ k (st.take n).reverse (st.drop n)
def mx_rcv (lay : mx_Lay) (d ci : Nat) (args : List Value) : Prop := match d with
  | 0 => match args with
    | .ref k :: _ => mx_isO lay k ci = true
    | _ => False
  | _ => True
def mx_cat (v : Value) (r : List Value) : List Value := v :: r
def mx_ov (v : Option Value) (r : List Value) : List Value := match v with
  | none => r
  | some x => x :: r
def mx_step (lay : mx_Lay) (Ga : mx_Ga) (J : mx_J) (Q : mx_Po) (e : mx_E) (l : mx_Lo) (st : List Value) (w : mx_Wd) (K : mx_Kt) : Prop :=
  match e with
  | (ins, _, a, b, c, d, f) =>
  match ins with
  | .nop => J a l st w
  | .iconst _ => K l (.int (mx_cI a b) :: st) w
  | .bipush _ => K l (.int (mx_cI a b) :: st) w
  | .sipush _ => K l (.int (mx_cI a b) :: st) w
  | .ldc _ => K l (.int (mx_cI a b) :: st) w
  | .ldc_w _ => K l (.int (mx_cI a b) :: st) w
  | .ldc2_w _ => match d with
    | 0 => K l (.long (mx_cL a b) :: st) w
    | _ => K l (.double (mx_cD a) :: st) w
  | .lconst _ => K l (.long (mx_cL a b) :: st) w
  | .dconst _ => match a with
    | 0 => K l (.double FP.dconst0 :: st) w
    | _ => K l (.double FP.dconst1 :: st) w
  | .iload _ => mx_gI l a fun x => K l (.int x :: st) w
  | .iload_n _ => mx_gI l a fun x => K l (.int x :: st) w
  | .lload _ => mx_gL l a fun x => K l (.long x :: st) w
  | .lload_n _ => mx_gL l a fun x => K l (.long x :: st) w
  | .dload _ => mx_gD l a fun x => K l (.double x :: st) w
  | .dload_n _ => mx_gD l a fun x => K l (.double x :: st) w
  | .aload _ => mx_gR l a fun x => K l (.ref x :: st) w
  | .aload_n _ => mx_gR l a fun x => K l (.ref x :: st) w
  | .istore _ => mx_pI st fun x st => K ((mx_cp l a).set a (some (.int x))) st w
  | .istore_n _ => mx_pI st fun x st => K ((mx_cp l a).set a (some (.int x))) st w
  | .lstore _ => mx_pL st fun x st => K (((mx_cp l a).set a (some (.long x))).set (a + 1) none) st w
  | .lstore_n _ => mx_pL st fun x st => K (((mx_cp l a).set a (some (.long x))).set (a + 1) none) st w
  | .dstore _ => mx_pD st fun x st => K (((mx_cp l a).set a (some (.double x))).set (a + 1) none) st w
  | .dstore_n _ => mx_pD st fun x st => K (((mx_cp l a).set a (some (.double x))).set (a + 1) none) st w
  | .astore _ => mx_pR st fun x st => K ((mx_cp l a).set a (some (.ref x))) st w
  | .astore_n _ => mx_pR st fun x st => K ((mx_cp l a).set a (some (.ref x))) st w
  | .iinc _ _ => mx_gI l a fun x => K ((mx_cp l a).set a (some (.int (x + mx_cI b c)))) st w
  | .iadd => mx_pI st fun y st => mx_pI st fun x st => K l (.int (x + y) :: st) w
  | .isub => mx_pI st fun y st => mx_pI st fun x st => K l (.int (x - y) :: st) w
  | .imul => mx_pI st fun y st => mx_pI st fun x st => K l (.int (x * y) :: st) w
  | .iand => mx_pI st fun y st => mx_pI st fun x st => K l (.int (x &&& y) :: st) w
  | .ior => mx_pI st fun y st => mx_pI st fun x st => K l (.int (x ||| y) :: st) w
  | .ishl => mx_pI st fun y st => mx_pI st fun x st => K l (.int (x <<< (y &&& 31)) :: st) w
  | .ishr => mx_pI st fun y st => mx_pI st fun x st => K l (.int (x >>> (y &&& 31)) :: st) w
  | .iushr => mx_pI st fun y st => mx_pI st fun x st => K l (.int (x.toUInt32 >>> (y.toUInt32 &&& Int32.toUInt32 31)).toInt32 :: st) w
  | .idiv => mx_pI st fun y st => mx_pI st fun x st => ¬ y = 0 ∧ K l (.int (x / y) :: st) w
  | .irem => mx_pI st fun y st => mx_pI st fun x st => ¬ y = 0 ∧ K l (.int (x - x / y * y) :: st) w
  | .i2l => mx_pI st fun x st => K l (.long x.toInt64 :: st) w
  | .ladd => mx_pL st fun y st => mx_pL st fun x st => K l (.long (x + y) :: st) w
  | .lsub => mx_pL st fun y st => mx_pL st fun x st => K l (.long (x - y) :: st) w
  | .lmul => mx_pL st fun y st => mx_pL st fun x st => K l (.long (x * y) :: st) w
  | .lrem => mx_pL st fun y st => mx_pL st fun x st => ¬ y = 0 ∧ K l (.long (x - x / y * y) :: st) w
  | .lor => mx_pL st fun y st => mx_pL st fun x st => K l (.long (x ||| y) :: st) w
  | .lshl => mx_pI st fun y st => mx_pL st fun x st => K l (.long (x <<< (y.toInt64 &&& 63)) :: st) w
  | .lcmp => mx_pL st fun y st => mx_pL st fun x st => K l (.int (lg_cmp x y) :: st) w
  | .dadd => mx_pD st fun y st => mx_pD st fun x st => vf_n64 (FP.dadd x y) ∧ K l (.double (FP.dadd x y) :: st) w
  | .dsub => mx_pD st fun y st => mx_pD st fun x st => vf_n64 (FP.dsub x y) ∧ K l (.double (FP.dsub x y) :: st) w
  | .dmul => mx_pD st fun y st => mx_pD st fun x st => vf_n64 (FP.dmul x y) ∧ K l (.double (FP.dmul x y) :: st) w
  | .ddiv => mx_pD st fun y st => mx_pD st fun x st => vf_n64 (FP.ddiv x y) ∧ K l (.double (FP.ddiv x y) :: st) w
  | .dcmp op => mx_pD st fun y st => mx_pD st fun x st => K l (.int (Op.cmpValue (FP.dcmp x y) op) :: st) w
  | .d2l => mx_pD st fun x st => K l (.long (FP.d2l x) :: st) w
  | .dup => mx_p1 st fun v st => K l (v :: v :: st) w
  | .dup2 => mx_p1 st fun v st => mx_p1 st fun u st => K l (v :: u :: v :: u :: st) w
  | .pop => mx_p1 st fun _ st => K l st w
  | .goto _ => J a l st w
  | .if_icmp cc _ => mx_pI st fun y st => mx_pI st fun x st => (mx_cmp cc x y → J a l st w) ∧ (¬ mx_cmp cc x y → K l st w)
  | .ifCond cc _ => mx_pI st fun x st => (mx_cmp cc x 0 → J a l st w) ∧ (¬ mx_cmp cc x 0 → K l st w)
  | .tableswitch df lo hi os => mx_pI st fun x st => ((x.toInt < lo ∨ hi < x.toInt) → J ((a : Int) + df).toNat l st w) ∧ (¬ (x.toInt < lo ∨ hi < x.toInt) → ∃ o, os[(x.toInt - lo).toNat]? = some o ∧ J ((a : Int) + o).toNat l st w)
  | .getfield _ => mx_pR st fun k st => mx_wF (mx_fld lay k a b) (fun k' => K l (.ref k' :: st) w) (K l (.int (mx_F w k b) :: st) w)
  | .putfield _ => mx_pI st fun x st => mx_pR st fun k st => mx_wF (mx_fld lay k a b) (fun _ => False) (match d with
    | 0 => K l st (mx_sF w k b x)
    | _ => (x = 0 ∨ x = 1) ∧ K l st (mx_sF w k b x))
  | .arraylength => mx_pR st fun k st => mx_wO ((mx_arr lay k).map fun q => q.2.1) fun n => K l (.int (nI n) :: st) w
  | .iaload => mx_pI st fun i st => mx_pR st fun k st => mx_wA (mx_arr lay k) 0 fun n => vp_in i n ∧ K l (.int (mx_A w k i.toNatClampNeg) :: st) w
  | .baload => mx_pI st fun i st => mx_pR st fun k st => mx_wA (mx_arr lay k) 1 fun n => vp_in i n ∧ K l (.int (mx_A w k i.toNatClampNeg) :: st) w
  | .laload => mx_pI st fun i st => mx_pR st fun k st => mx_wA (mx_arr lay k) 2 fun n => vp_in i n ∧ K l (.long (mx_L w k i.toNatClampNeg) :: st) w
  | .daload => mx_pI st fun i st => mx_pR st fun k st => mx_wA (mx_arr lay k) 3 fun n => vp_in i n ∧ K l (.double (mx_D w k i.toNatClampNeg) :: st) w
  | .aaload => mx_pI st fun i st => mx_pR st fun k st => mx_wR (mx_arr lay k) fun n rs => vp_in i n ∧ mx_wO (rs[i.toNatClampNeg]?) fun k' => K l (.ref k' :: st) w
  | .iastore => mx_pI st fun x st => mx_pI st fun i st => mx_pR st fun k st => mx_wA (mx_arr lay k) 0 fun n => vp_in i n ∧ K l st (mx_sA w k (upd (mx_A w k) i.toNatClampNeg x))
  | .bastore => mx_pI st fun x st => mx_pI st fun i st => mx_pR st fun k st => mx_wA (mx_arr lay k) 1 fun n => vp_in i n ∧ (x = 0 ∨ x = 1) ∧ K l st (mx_sA w k (upd (mx_A w k) i.toNatClampNeg x))
  | .lastore => mx_pL st fun x st => mx_pI st fun i st => mx_pR st fun k st => mx_wA (mx_arr lay k) 2 fun n => vp_in i n ∧ K l st (mx_sL w k (vp_updL (mx_L w k) i.toNatClampNeg x))
  | .dastore => mx_pD st fun x st => mx_pI st fun i st => mx_pR st fun k st => mx_wA (mx_arr lay k) 3 fun n => vp_in i n ∧ K l st (mx_sD w k (vf_upd (mx_D w k) i.toNatClampNeg x))
  | .invokevirtual _ => match d with
    | 0 => mx_popn st b fun as rest => mx_rcv lay 0 f as ∧ Ga a as w fun v w' => K l (mx_ov v rest) w'
    | _ => False
  | .invokestatic _ => match d with
    | 1 => mx_popn st b fun as rest => Ga a as w fun v w' => K l (mx_ov v rest) w'
    | 2 => mx_pI st fun n st => mx_pI st fun dp st => mx_pR st fun k1 st => mx_pI st fun sp st => mx_pR st fun k0 st => mx_wA (mx_arr lay k0) 0 fun n0 => mx_wA (mx_arr lay k1) 0 fun n1 => ¬ sp < 0 ∧ ¬ dp < 0 ∧ ¬ n < 0 ∧ sp.toNatClampNeg + n.toNatClampNeg ≤ n0 ∧ dp.toNatClampNeg + n.toNatClampNeg ≤ n1 ∧ mx_l8 st ∧ K l st (mx_sA w k1 (va_cpy (mx_A w k0) (mx_A w k1) sp.toNatClampNeg dp.toNatClampNeg n.toNatClampNeg))
    | 6 => mx_pI st fun y st => mx_pI st fun x st => mx_l8 st ∧ K l (.int (if x < y then y else x) :: st) w
    | 7 => mx_pI st fun y st => mx_pI st fun x st => mx_l8 st ∧ K l (.int (if y < x then y else x) :: st) w
    | 8 => mx_pL st fun y st => mx_pL st fun x st => mx_l8 st ∧ K l (.long (if y < x then y else x) :: st) w
    | _ => False
  | .ireturn => mx_pI st fun x st => mx_nil st (match d with
    | 0 => Q (some (.int x)) w
    | _ => (x = 0 ∨ x = 1) ∧ Q (some (.int x)) w)
  | .lreturn => mx_pL st fun x st => mx_nil st (Q (some (.long x)) w)
  | .areturn => mx_pR st fun x st => mx_nil st (Q (some (.ref x)) w)
  | .dreturn => mx_pD st fun x st => mx_nil st (Q (some (.double x)) w)
  | .return_ => mx_nil st (Q none w)
  | _ => False
def mx_run (lay : mx_Lay) (Ga : mx_Ga) (J : mx_J) (Q : mx_Po) : List mx_E → mx_Kt
  | [] => fun _ _ _ => False
  | e :: r => fun l st w => mx_step lay Ga J Q e l st w (mx_run lay Ga J Q r)
/-- the block at a label -/
def mx_blk (bs : List (Nat × List mx_E)) (L : Nat) : List mx_E := match bs with
  | [] => []
  | (n, b) :: r => if n = L then b else mx_blk r L
/-- the least predicate closed under the blocks -/
def mx_wl (lay : mx_Lay) (Ga : mx_Ga) (bs : List (Nat × List mx_E)) (Q : mx_Po) : mx_J := fun L l st w =>
  ∀ P : mx_J, (∀ L l st w, mx_run lay Ga P Q (mx_blk bs L) l st w → P L l st w) → P L l st w
/-- the same with an exit: where E holds the run may end -/
def mx_wx (lay : mx_Lay) (Ga : mx_Ga) (bs : List (Nat × List mx_E)) (Q : mx_Po) (E : mx_J) : mx_J := fun L l st w =>
  ∀ P : mx_J, (∀ L l st w, E L l st w → P L l st w) → (∀ L l st w, mx_run lay Ga P Q (mx_blk bs L) l st w → P L l st w) → P L l st w
