/-! printed by wip/p46/g_gen5.py: the constructors that make arrays alone; k_Pc, k_Qc: a fresh object; the object and its arrays -/
def k_ws (y : MethodName) (cc : ByteArray) : List Jvm.Cond := Jvm.Cond.code y cc 1 none :: mx_big
def k_Pc (D : va_G) (h0 sz ci : Nat) (fs : List Value) : Array Value → State → Prop := va_Pc [.ref h0] (fun U => U.heap.size = sz ∧ va_P D vwCl [(h0, .inr (ci, fs))] U.heap ∧ va_K D vwCl [] U ∧ va_D (fun _ => True) [(h0, .inr (ci, fs))] ∧ mm_AO .int U ∧ mm_AO .long U)
def k_Qc (D : va_G) (A : Nat → Prop) (Wf : (Nat → Nat) → (Nat → ClassId) → va_W) (Tf : (Nat → ClassId) → List (ClassId × FieldType)) : Array Value → State → Outcome → State → Prop := va_Qv (fun _ : Unit => True) (fun _ U => ∃ (as : Nat → Nat) (cs : Nat → ClassId), va_P D vwCl (Wf as cs) U.heap ∧ va_K D vwCl (Tf cs) U ∧ va_D A (Wf as cs)) A
theorem k_in {ci : Nat} {C : String} {TT : u_T} {N : Nat} (h : vwCl[ci]? = some (C, TT, N)) : ∀ w ∈ u_ws C TT N, w ∈ mx_big := (mx_hy.2.2.2.2.2.2.2.2.2.2.2.2.1 _ _ _ _ h).1
theorem k_w1 : Jvm.Cond.instanceMethod objectInit ∈ mx_big := (mx_bg 50 (by decide +kernel) (by decide +kernel))
theorem k_w2 : Jvm.Cond.code objectInit ⟨#[0xb1]⟩ 1 none ∈ mx_big := (mx_bg 51 (by decide +kernel) (by decide +kernel))
def kW_X4 (h : Nat) (as : Nat → Nat) (cs : Nat → ClassId) : va_W := [(h, .inr (4, [.ref (as 0), .ref (as 1), .ref (as 2), .ref (as 3), .int 0, .int 0, .int 1])), (as 0, .inl (cs 0, 64, .inl fun _ => 0)), (as 1, .inl (cs 1, 64, .inl fun _ => 0)), (as 2, .inl (cs 2, 64, .inl fun _ => 0)), (as 3, .inl (cs 3, 16, .inl fun _ => 0))]
def kT_X4 (cs : Nat → ClassId) : List (ClassId × FieldType) := [(cs 0, .int), (cs 1, .int), (cs 2, .int), (cs 3, .int)]
set_option maxRecDepth 100000 in
set_option maxHeartbeats 4000000 in
theorem k_X4 (l : Launch) (D : va_G) (h0 sz : Nat) : Met l yX4_init (k_ws yX4_init cX4_init) ({ frames := 1, cells := 4, slots := 208, locals := 12 }) (k_Pc D h0 sz 4 [.null, .null, .null, .null, .int 0, .int 0, .int 0]) (k_Qc D (va_A [(h0, .inr (4, [.null, .null, .null, .null, .int 0, .int 0, .int 0]))] sz) (kW_X4 h0) kT_X4) 4 208 (va_A [(h0, .inr (4, [.null, .null, .null, .null, .int 0, .int 0, .int 0]))] sz) := by
  refine Met.ofW (cc := cX4_init) (maxL := 1) (ret := none) (by decide +kernel) rfl ?_
  intro p e s m args below meth c s₁ B hml hv
  obtain ⟨rfl, hsz, hP, hK, hD0, hO1, hO2⟩ := hv
  have hx := B.exec
  have hb := B.bytes
  have hr := B.returns
  have hts0 := atoms_spec (ws := k_ws yX4_init cX4_init) B.pre
  have hts := fun w hw => hts0 w (List.mem_cons_of_mem _ hw)
  have hown : s.vm.findClass RX4 = some m.cls := findClass_of_methodNamed B.named
  have hlocks := B.notSynchronized
  have hin : meth.name = "<init>" := (name_of_methodNamed B.named B.method).1
  subst hsz
  have hD := hD0.self (sz := s.heap.size)
  generalize hAe : va_A [(h0, .inr (4, [.null, .null, .null, .null, .int 0, .int 0, .int 0]))] s.heap.size = A at hD ⊢
  have hA : ∀ q : Nat, s.heap.size ≤ q → A q := fun q h => by rw [← hAe]; exact Or.inr h
  have hS : va_S A s.heap s.heap [] := va_S.rf
  have hP : va_P D vwCl [(h0, .inr (4, [.null, .null, .null, .null, .int 0, .int 0, .int 0]))] s.heap := hP
  have hl := lv_entry ([.ref h0]) (n := 1) (Nat.le_of_ble_eq_true rfl)
  rw [lg_entry_eq]
  generalize (lg_sl ([.ref h0]) ++ List.replicate (1 - (lg_sl ([.ref h0])).length) Slot.unset).toArray = ls at hl ⊢
  have hl : lv_has ls 1 [(0, .ref h0)] := hl
  refine lv_aload_n (k := 0) hx hb (by decide +kernel) rfl (lv_at hl 0 rfl) ?_
  refine W.objInit (own := RX4) (idx := 3) hx hb hown (hts _ (mx_bg 57 (by decide +kernel) (by decide +kernel))) (hts _ k_w1) (hts _ k_w2) rfl (by rw [hml]; exact hl.1) rfl (show decode cX4_init 1 = .ok (.invokespecial 3, 3) from by decide +kernel) (Nat.le_of_ble_eq_true rfl) (Nat.le_of_ble_eq_true rfl) ?_
  refine W.eq (g2 := F0 m 4 ls []) rfl ?_
  refine lv_aload_n (k := 0) hx hb (by decide +kernel) rfl (lv_at hl 0 rfl) ?_
  refine lv_bipush (n := 64) (v := 64) hx hb (by decide +kernel) (by decide) ?_
  refine va_newa (atype := .int) (ty := .int) (n := 64) (N' := 64) (a0 := (64, .inl fun _ => 0)) hx hb (hts _ (mx_bg 80 (by decide +kernel) (by decide +kernel))) rfl hK hP hD hS hA (fun cA => rfl) (by decide) (by decide) (by decide) (Nat.le_of_ble_eq_true rfl) (Nat.le_of_ble_eq_true rfl) (by decide +kernel) (fun q7 c7 H hK hP hD hS => ?_)
  have hP : va_P D vwCl [(h0, .inr (4, [.null, .null, .null, .null, .int 0, .int 0, .int 0])), (q7, .inl (c7, 64, .inl fun _ => 0))] H := hP
  have hD : va_D A [(h0, .inr (4, [.null, .null, .null, .null, .int 0, .int 0, .int 0])), (q7, .inl (c7, 64, .inl fun _ => 0))] := hD
  have hK : va_K D vwCl [(c7, .int)] s := hK
  refine W.widen (k := 1) (n := 64) (Nat.le_of_ble_eq_true rfl) (Nat.le_of_ble_eq_true rfl) ?_
  refine va_putF (D := D) (cl := vwCl) (ci := 4) (v := .ref q7) (ty := .array .int) (C := RX4) (T := TX4) (N := 7) (own := RX4) (ref := RX4) (index := 11) hx hb hts (k_in (ci := 4) rfl) tyX4 tyX4_ok nmX4 hown hK hP hD hS 0 rfl rfl 0 (by decide) (hts _ (mx_bg 58 (by decide +kernel) (by decide +kernel))) (fun _ h9 => h9) rfl hin rfl (by decide +kernel) rfl rfl (Nat.le_of_ble_eq_true rfl) (by decide +kernel) (fun H locs hP hD hS => ?_)
  have hP : va_P D vwCl [(h0, .inr (4, [.ref q7, .null, .null, .null, .int 0, .int 0, .int 0])), (q7, .inl (c7, 64, .inl fun _ => 0))] H := hP
  have hD : va_D A [(h0, .inr (4, [.ref q7, .null, .null, .null, .int 0, .int 0, .int 0])), (q7, .inl (c7, 64, .inl fun _ => 0))] := hD
  refine lv_aload_n (k := 0) hx hb (by decide +kernel) rfl (lv_at hl 0 rfl) ?_
  refine lv_bipush (n := 64) (v := 64) hx hb (by decide +kernel) (by decide) ?_
  refine va_newa (atype := .int) (ty := .int) (n := 64) (N' := 64) (a0 := (64, .inl fun _ => 0)) hx hb (hts _ (mx_bg 80 (by decide +kernel) (by decide +kernel))) rfl hK hP hD hS hA (fun cA => rfl) (by decide) (by decide) (by decide) (Nat.le_of_ble_eq_true rfl) (Nat.le_of_ble_eq_true rfl) (by decide +kernel) (fun q15 c15 H hK hP hD hS => ?_)
  have hP : va_P D vwCl [(h0, .inr (4, [.ref q7, .null, .null, .null, .int 0, .int 0, .int 0])), (q7, .inl (c7, 64, .inl fun _ => 0)), (q15, .inl (c15, 64, .inl fun _ => 0))] H := hP
  have hD : va_D A [(h0, .inr (4, [.ref q7, .null, .null, .null, .int 0, .int 0, .int 0])), (q7, .inl (c7, 64, .inl fun _ => 0)), (q15, .inl (c15, 64, .inl fun _ => 0))] := hD
  have hK : va_K D vwCl [(c7, .int), (c15, .int)] s := hK
  refine W.widen (k := 2) (n := 128) (Nat.le_of_ble_eq_true rfl) (Nat.le_of_ble_eq_true rfl) ?_
  refine va_putF (D := D) (cl := vwCl) (ci := 4) (v := .ref q15) (ty := .array .int) (C := RX4) (T := TX4) (N := 7) (own := RX4) (ref := RX4) (index := 15) hx hb hts (k_in (ci := 4) rfl) tyX4 tyX4_ok nmX4 hown hK hP hD hS 0 rfl rfl 1 (by decide) (hts _ (mx_bg 59 (by decide +kernel) (by decide +kernel))) (fun _ h9 => h9) rfl hin rfl (by decide +kernel) rfl rfl (Nat.le_of_ble_eq_true rfl) (by decide +kernel) (fun H locs hP hD hS => ?_)
  have hP : va_P D vwCl [(h0, .inr (4, [.ref q7, .ref q15, .null, .null, .int 0, .int 0, .int 0])), (q7, .inl (c7, 64, .inl fun _ => 0)), (q15, .inl (c15, 64, .inl fun _ => 0))] H := hP
  have hD : va_D A [(h0, .inr (4, [.ref q7, .ref q15, .null, .null, .int 0, .int 0, .int 0])), (q7, .inl (c7, 64, .inl fun _ => 0)), (q15, .inl (c15, 64, .inl fun _ => 0))] := hD
  refine lv_aload_n (k := 0) hx hb (by decide +kernel) rfl (lv_at hl 0 rfl) ?_
  refine lv_bipush (n := 64) (v := 64) hx hb (by decide +kernel) (by decide) ?_
  refine va_newa (atype := .int) (ty := .int) (n := 64) (N' := 64) (a0 := (64, .inl fun _ => 0)) hx hb (hts _ (mx_bg 80 (by decide +kernel) (by decide +kernel))) rfl hK hP hD hS hA (fun cA => rfl) (by decide) (by decide) (by decide) (Nat.le_of_ble_eq_true rfl) (Nat.le_of_ble_eq_true rfl) (by decide +kernel) (fun q23 c23 H hK hP hD hS => ?_)
  have hP : va_P D vwCl [(h0, .inr (4, [.ref q7, .ref q15, .null, .null, .int 0, .int 0, .int 0])), (q7, .inl (c7, 64, .inl fun _ => 0)), (q15, .inl (c15, 64, .inl fun _ => 0)), (q23, .inl (c23, 64, .inl fun _ => 0))] H := hP
  have hD : va_D A [(h0, .inr (4, [.ref q7, .ref q15, .null, .null, .int 0, .int 0, .int 0])), (q7, .inl (c7, 64, .inl fun _ => 0)), (q15, .inl (c15, 64, .inl fun _ => 0)), (q23, .inl (c23, 64, .inl fun _ => 0))] := hD
  have hK : va_K D vwCl [(c7, .int), (c15, .int), (c23, .int)] s := hK
  refine W.widen (k := 3) (n := 192) (Nat.le_of_ble_eq_true rfl) (Nat.le_of_ble_eq_true rfl) ?_
  refine va_putF (D := D) (cl := vwCl) (ci := 4) (v := .ref q23) (ty := .array .int) (C := RX4) (T := TX4) (N := 7) (own := RX4) (ref := RX4) (index := 18) hx hb hts (k_in (ci := 4) rfl) tyX4 tyX4_ok nmX4 hown hK hP hD hS 0 rfl rfl 2 (by decide) (hts _ (mx_bg 60 (by decide +kernel) (by decide +kernel))) (fun _ h9 => h9) rfl hin rfl (by decide +kernel) rfl rfl (Nat.le_of_ble_eq_true rfl) (by decide +kernel) (fun H locs hP hD hS => ?_)
  have hP : va_P D vwCl [(h0, .inr (4, [.ref q7, .ref q15, .ref q23, .null, .int 0, .int 0, .int 0])), (q7, .inl (c7, 64, .inl fun _ => 0)), (q15, .inl (c15, 64, .inl fun _ => 0)), (q23, .inl (c23, 64, .inl fun _ => 0))] H := hP
  have hD : va_D A [(h0, .inr (4, [.ref q7, .ref q15, .ref q23, .null, .int 0, .int 0, .int 0])), (q7, .inl (c7, 64, .inl fun _ => 0)), (q15, .inl (c15, 64, .inl fun _ => 0)), (q23, .inl (c23, 64, .inl fun _ => 0))] := hD
  refine lv_aload_n (k := 0) hx hb (by decide +kernel) rfl (lv_at hl 0 rfl) ?_
  refine lv_bipush (n := 16) (v := 16) hx hb (by decide +kernel) (by decide) ?_
  refine va_newa (atype := .int) (ty := .int) (n := 16) (N' := 16) (a0 := (16, .inl fun _ => 0)) hx hb (hts _ (mx_bg 80 (by decide +kernel) (by decide +kernel))) rfl hK hP hD hS hA (fun cA => rfl) (by decide) (by decide) (by decide) (Nat.le_of_ble_eq_true rfl) (Nat.le_of_ble_eq_true rfl) (by decide +kernel) (fun q31 c31 H hK hP hD hS => ?_)
  have hP : va_P D vwCl [(h0, .inr (4, [.ref q7, .ref q15, .ref q23, .null, .int 0, .int 0, .int 0])), (q7, .inl (c7, 64, .inl fun _ => 0)), (q15, .inl (c15, 64, .inl fun _ => 0)), (q23, .inl (c23, 64, .inl fun _ => 0)), (q31, .inl (c31, 16, .inl fun _ => 0))] H := hP
  have hD : va_D A [(h0, .inr (4, [.ref q7, .ref q15, .ref q23, .null, .int 0, .int 0, .int 0])), (q7, .inl (c7, 64, .inl fun _ => 0)), (q15, .inl (c15, 64, .inl fun _ => 0)), (q23, .inl (c23, 64, .inl fun _ => 0)), (q31, .inl (c31, 16, .inl fun _ => 0))] := hD
  have hK : va_K D vwCl [(c7, .int), (c15, .int), (c23, .int), (c31, .int)] s := hK
  refine W.widen (k := 4) (n := 208) (Nat.le_of_ble_eq_true rfl) (Nat.le_of_ble_eq_true rfl) ?_
  refine va_putF (D := D) (cl := vwCl) (ci := 4) (v := .ref q31) (ty := .array .int) (C := RX4) (T := TX4) (N := 7) (own := RX4) (ref := RX4) (index := 21) hx hb hts (k_in (ci := 4) rfl) tyX4 tyX4_ok nmX4 hown hK hP hD hS 0 rfl rfl 3 (by decide) (hts _ (mx_bg 61 (by decide +kernel) (by decide +kernel))) (fun _ h9 => h9) rfl hin rfl (by decide +kernel) rfl rfl (Nat.le_of_ble_eq_true rfl) (by decide +kernel) (fun H locs hP hD hS => ?_)
  have hP : va_P D vwCl [(h0, .inr (4, [.ref q7, .ref q15, .ref q23, .ref q31, .int 0, .int 0, .int 0])), (q7, .inl (c7, 64, .inl fun _ => 0)), (q15, .inl (c15, 64, .inl fun _ => 0)), (q23, .inl (c23, 64, .inl fun _ => 0)), (q31, .inl (c31, 16, .inl fun _ => 0))] H := hP
  have hD : va_D A [(h0, .inr (4, [.ref q7, .ref q15, .ref q23, .ref q31, .int 0, .int 0, .int 0])), (q7, .inl (c7, 64, .inl fun _ => 0)), (q15, .inl (c15, 64, .inl fun _ => 0)), (q23, .inl (c23, 64, .inl fun _ => 0)), (q31, .inl (c31, 16, .inl fun _ => 0))] := hD
  refine lv_aload_n (k := 0) hx hb (by decide +kernel) rfl (lv_at hl 0 rfl) ?_
  refine lv_iconst (n := 0) (v := 0) hx hb (by decide +kernel) (by decide) ?_
  refine va_put (D := D) (cl := vwCl) (ci := 4) (v := .int 0) (ty := .int) (C := RX4) (T := TX4) (N := 7) (own := RX4) (ref := RX4) (index := 24) hx hb hts (k_in (ci := 4) rfl) tyX4 tyX4_ok nmX4 hown hK hP hD hS 0 rfl rfl 4 (by decide) (hts _ (mx_bg 62 (by decide +kernel) (by decide +kernel))) (fun _ h9 => h9) rfl (by decide +kernel) (by decide) (by decide) (Nat.le_of_ble_eq_true rfl) (by decide +kernel) (fun H locs hP hD hS => ?_)
  have hP : va_P D vwCl [(h0, .inr (4, [.ref q7, .ref q15, .ref q23, .ref q31, .int 0, .int 0, .int 0])), (q7, .inl (c7, 64, .inl fun _ => 0)), (q15, .inl (c15, 64, .inl fun _ => 0)), (q23, .inl (c23, 64, .inl fun _ => 0)), (q31, .inl (c31, 16, .inl fun _ => 0))] H := hP
  have hD : va_D A [(h0, .inr (4, [.ref q7, .ref q15, .ref q23, .ref q31, .int 0, .int 0, .int 0])), (q7, .inl (c7, 64, .inl fun _ => 0)), (q15, .inl (c15, 64, .inl fun _ => 0)), (q23, .inl (c23, 64, .inl fun _ => 0)), (q31, .inl (c31, 16, .inl fun _ => 0))] := hD
  refine lv_aload_n (k := 0) hx hb (by decide +kernel) rfl (lv_at hl 0 rfl) ?_
  refine lv_iconst (n := 0) (v := 0) hx hb (by decide +kernel) (by decide) ?_
  refine va_put (D := D) (cl := vwCl) (ci := 4) (v := .int 0) (ty := .int) (C := RX4) (T := TX4) (N := 7) (own := RX4) (ref := RX4) (index := 28) hx hb hts (k_in (ci := 4) rfl) tyX4 tyX4_ok nmX4 hown hK hP hD hS 0 rfl rfl 5 (by decide) (hts _ (mx_bg 63 (by decide +kernel) (by decide +kernel))) (fun _ h9 => h9) rfl (by decide +kernel) (by decide) (by decide) (Nat.le_of_ble_eq_true rfl) (by decide +kernel) (fun H locs hP hD hS => ?_)
  have hP : va_P D vwCl [(h0, .inr (4, [.ref q7, .ref q15, .ref q23, .ref q31, .int 0, .int 0, .int 0])), (q7, .inl (c7, 64, .inl fun _ => 0)), (q15, .inl (c15, 64, .inl fun _ => 0)), (q23, .inl (c23, 64, .inl fun _ => 0)), (q31, .inl (c31, 16, .inl fun _ => 0))] H := hP
  have hD : va_D A [(h0, .inr (4, [.ref q7, .ref q15, .ref q23, .ref q31, .int 0, .int 0, .int 0])), (q7, .inl (c7, 64, .inl fun _ => 0)), (q15, .inl (c15, 64, .inl fun _ => 0)), (q23, .inl (c23, 64, .inl fun _ => 0)), (q31, .inl (c31, 16, .inl fun _ => 0))] := hD
  refine lv_aload_n (k := 0) hx hb (by decide +kernel) rfl (lv_at hl 0 rfl) ?_
  refine lv_iconst (n := 1) (v := 1) hx hb (by decide +kernel) (by decide) ?_
  refine va_put (D := D) (cl := vwCl) (ci := 4) (v := .int 1) (ty := .int) (C := RX4) (T := TX4) (N := 7) (own := RX4) (ref := RX4) (index := 31) hx hb hts (k_in (ci := 4) rfl) tyX4 tyX4_ok nmX4 hown hK hP hD hS 0 rfl rfl 6 (by decide) (hts _ (mx_bg 64 (by decide +kernel) (by decide +kernel))) (fun _ h9 => h9) rfl (by decide +kernel) (by decide) (by decide) (Nat.le_of_ble_eq_true rfl) (by decide +kernel) (fun H locs hP hD hS => ?_)
  have hP : va_P D vwCl [(h0, .inr (4, [.ref q7, .ref q15, .ref q23, .ref q31, .int 0, .int 0, .int 1])), (q7, .inl (c7, 64, .inl fun _ => 0)), (q15, .inl (c15, 64, .inl fun _ => 0)), (q23, .inl (c23, 64, .inl fun _ => 0)), (q31, .inl (c31, 16, .inl fun _ => 0))] H := hP
  have hD : va_D A [(h0, .inr (4, [.ref q7, .ref q15, .ref q23, .ref q31, .int 0, .int 0, .int 1])), (q7, .inl (c7, 64, .inl fun _ => 0)), (q15, .inl (c15, 64, .inl fun _ => 0)), (q23, .inl (c23, 64, .inl fun _ => 0)), (q31, .inl (c31, 16, .inl fun _ => 0))] := hD
  exact W.vret hx hb hr (fun t ht hW => ⟨⟨(), rfl, trivial, fun i => ([q7, q15, q23, q31] : List Nat).getD i 0, fun i => ([c7, c15, c23, c31] : List Nat).getD i 0, by rw [ht]; exact hP, va_K.moved hW.alike hK, hD⟩, hS.F ht⟩) hS.2.2 (by decide +kernel)
def kW_X8 (h : Nat) (as : Nat → Nat) (cs : Nat → ClassId) : va_W := [(h, .inr (8, [.ref (as 0), .int 0])), (as 0, .inl (cs 0, 40, .inl fun _ => 0))]
def kT_X8 (cs : Nat → ClassId) : List (ClassId × FieldType) := [(cs 0, .int)]
set_option maxRecDepth 100000 in
set_option maxHeartbeats 4000000 in
theorem k_X8 (l : Launch) (D : va_G) (h0 sz : Nat) : Met l yX8_init (k_ws yX8_init cX8_init) ({ frames := 1, cells := 1, slots := 40, locals := 12 }) (k_Pc D h0 sz 8 [.null, .int 0]) (k_Qc D (va_A [(h0, .inr (8, [.null, .int 0]))] sz) (kW_X8 h0) kT_X8) 1 40 (va_A [(h0, .inr (8, [.null, .int 0]))] sz) := by
  refine Met.ofW (cc := cX8_init) (maxL := 1) (ret := none) (by decide +kernel) rfl ?_
  intro p e s m args below meth c s₁ B hml hv
  obtain ⟨rfl, hsz, hP, hK, hD0, hO1, hO2⟩ := hv
  have hx := B.exec
  have hb := B.bytes
  have hr := B.returns
  have hts0 := atoms_spec (ws := k_ws yX8_init cX8_init) B.pre
  have hts := fun w hw => hts0 w (List.mem_cons_of_mem _ hw)
  have hown : s.vm.findClass RX8 = some m.cls := findClass_of_methodNamed B.named
  have hlocks := B.notSynchronized
  have hin : meth.name = "<init>" := (name_of_methodNamed B.named B.method).1
  subst hsz
  have hD := hD0.self (sz := s.heap.size)
  generalize hAe : va_A [(h0, .inr (8, [.null, .int 0]))] s.heap.size = A at hD ⊢
  have hA : ∀ q : Nat, s.heap.size ≤ q → A q := fun q h => by rw [← hAe]; exact Or.inr h
  have hS : va_S A s.heap s.heap [] := va_S.rf
  have hP : va_P D vwCl [(h0, .inr (8, [.null, .int 0]))] s.heap := hP
  have hl := lv_entry ([.ref h0]) (n := 1) (Nat.le_of_ble_eq_true rfl)
  rw [lg_entry_eq]
  generalize (lg_sl ([.ref h0]) ++ List.replicate (1 - (lg_sl ([.ref h0])).length) Slot.unset).toArray = ls at hl ⊢
  have hl : lv_has ls 1 [(0, .ref h0)] := hl
  refine lv_aload_n (k := 0) hx hb (by decide +kernel) rfl (lv_at hl 0 rfl) ?_
  refine W.objInit (own := RX8) (idx := 3) hx hb hown (hts _ (mx_bg 86 (by decide +kernel) (by decide +kernel))) (hts _ k_w1) (hts _ k_w2) rfl (by rw [hml]; exact hl.1) rfl (show decode cX8_init 1 = .ok (.invokespecial 3, 3) from by decide +kernel) (Nat.le_of_ble_eq_true rfl) (Nat.le_of_ble_eq_true rfl) ?_
  refine W.eq (g2 := F0 m 4 ls []) rfl ?_
  refine lv_aload_n (k := 0) hx hb (by decide +kernel) rfl (lv_at hl 0 rfl) ?_
  refine lv_bipush (n := 40) (v := 40) hx hb (by decide +kernel) (by decide) ?_
  refine va_newa (atype := .int) (ty := .int) (n := 40) (N' := 40) (a0 := (40, .inl fun _ => 0)) hx hb (hts _ (mx_bg 80 (by decide +kernel) (by decide +kernel))) rfl hK hP hD hS hA (fun cA => rfl) (by decide) (by decide) (by decide) (Nat.le_of_ble_eq_true rfl) (Nat.le_of_ble_eq_true rfl) (by decide +kernel) (fun q7 c7 H hK hP hD hS => ?_)
  have hP : va_P D vwCl [(h0, .inr (8, [.null, .int 0])), (q7, .inl (c7, 40, .inl fun _ => 0))] H := hP
  have hD : va_D A [(h0, .inr (8, [.null, .int 0])), (q7, .inl (c7, 40, .inl fun _ => 0))] := hD
  have hK : va_K D vwCl [(c7, .int)] s := hK
  refine W.widen (k := 1) (n := 40) (Nat.le_of_ble_eq_true rfl) (Nat.le_of_ble_eq_true rfl) ?_
  refine va_putF (D := D) (cl := vwCl) (ci := 8) (v := .ref q7) (ty := .array .int) (C := RX8) (T := TX8) (N := 2) (own := RX8) (ref := RX8) (index := 11) hx hb hts (k_in (ci := 8) rfl) tyX8 tyX8_ok nmX8 hown hK hP hD hS 0 rfl rfl 0 (by decide) (hts _ (mx_bg 87 (by decide +kernel) (by decide +kernel))) (fun _ h9 => h9) rfl hin rfl (by decide +kernel) rfl rfl (Nat.le_of_ble_eq_true rfl) (by decide +kernel) (fun H locs hP hD hS => ?_)
  have hP : va_P D vwCl [(h0, .inr (8, [.ref q7, .int 0])), (q7, .inl (c7, 40, .inl fun _ => 0))] H := hP
  have hD : va_D A [(h0, .inr (8, [.ref q7, .int 0])), (q7, .inl (c7, 40, .inl fun _ => 0))] := hD
  refine lv_aload_n (k := 0) hx hb (by decide +kernel) rfl (lv_at hl 0 rfl) ?_
  refine lv_iconst (n := 0) (v := 0) hx hb (by decide +kernel) (by decide) ?_
  refine va_put (D := D) (cl := vwCl) (ci := 8) (v := .int 0) (ty := .int) (C := RX8) (T := TX8) (N := 2) (own := RX8) (ref := RX8) (index := 15) hx hb hts (k_in (ci := 8) rfl) tyX8 tyX8_ok nmX8 hown hK hP hD hS 0 rfl rfl 1 (by decide) (hts _ (mx_bg 88 (by decide +kernel) (by decide +kernel))) (fun _ h9 => h9) rfl (by decide +kernel) (by decide) (by decide) (Nat.le_of_ble_eq_true rfl) (by decide +kernel) (fun H locs hP hD hS => ?_)
  have hP : va_P D vwCl [(h0, .inr (8, [.ref q7, .int 0])), (q7, .inl (c7, 40, .inl fun _ => 0))] H := hP
  have hD : va_D A [(h0, .inr (8, [.ref q7, .int 0])), (q7, .inl (c7, 40, .inl fun _ => 0))] := hD
  exact W.vret hx hb hr (fun t ht hW => ⟨⟨(), rfl, trivial, fun i => ([q7] : List Nat).getD i 0, fun i => ([c7] : List Nat).getD i 0, by rw [ht]; exact hP, va_K.moved hW.alike hK, hD⟩, hS.F ht⟩) hS.2.2 (by decide +kernel)
def kW_X1 (h : Nat) (as : Nat → Nat) (cs : Nat → ClassId) : va_W := [(h, .inr (1, [.ref (as 0), .int 0])), (as 0, .inl (cs 0, 20, .inl fun _ => 0))]
def kT_X1 (cs : Nat → ClassId) : List (ClassId × FieldType) := [(cs 0, .int)]
set_option maxRecDepth 100000 in
set_option maxHeartbeats 4000000 in
theorem k_X1 (l : Launch) (D : va_G) (h0 sz : Nat) : Met l yX1_init (k_ws yX1_init cX1_init) ({ frames := 1, cells := 1, slots := 20, locals := 12 }) (k_Pc D h0 sz 1 [.null, .int 0]) (k_Qc D (va_A [(h0, .inr (1, [.null, .int 0]))] sz) (kW_X1 h0) kT_X1) 1 20 (va_A [(h0, .inr (1, [.null, .int 0]))] sz) := by
  refine Met.ofW (cc := cX1_init) (maxL := 1) (ret := none) (by decide +kernel) rfl ?_
  intro p e s m args below meth c s₁ B hml hv
  obtain ⟨rfl, hsz, hP, hK, hD0, hO1, hO2⟩ := hv
  have hx := B.exec
  have hb := B.bytes
  have hr := B.returns
  have hts0 := atoms_spec (ws := k_ws yX1_init cX1_init) B.pre
  have hts := fun w hw => hts0 w (List.mem_cons_of_mem _ hw)
  have hown : s.vm.findClass RX1 = some m.cls := findClass_of_methodNamed B.named
  have hlocks := B.notSynchronized
  have hin : meth.name = "<init>" := (name_of_methodNamed B.named B.method).1
  subst hsz
  have hD := hD0.self (sz := s.heap.size)
  generalize hAe : va_A [(h0, .inr (1, [.null, .int 0]))] s.heap.size = A at hD ⊢
  have hA : ∀ q : Nat, s.heap.size ≤ q → A q := fun q h => by rw [← hAe]; exact Or.inr h
  have hS : va_S A s.heap s.heap [] := va_S.rf
  have hP : va_P D vwCl [(h0, .inr (1, [.null, .int 0]))] s.heap := hP
  have hl := lv_entry ([.ref h0]) (n := 1) (Nat.le_of_ble_eq_true rfl)
  rw [lg_entry_eq]
  generalize (lg_sl ([.ref h0]) ++ List.replicate (1 - (lg_sl ([.ref h0])).length) Slot.unset).toArray = ls at hl ⊢
  have hl : lv_has ls 1 [(0, .ref h0)] := hl
  refine lv_aload_n (k := 0) hx hb (by decide +kernel) rfl (lv_at hl 0 rfl) ?_
  refine W.objInit (own := RX1) (idx := 3) hx hb hown (hts _ (mx_bg 99 (by decide +kernel) (by decide +kernel))) (hts _ k_w1) (hts _ k_w2) rfl (by rw [hml]; exact hl.1) rfl (show decode cX1_init 1 = .ok (.invokespecial 3, 3) from by decide +kernel) (Nat.le_of_ble_eq_true rfl) (Nat.le_of_ble_eq_true rfl) ?_
  refine W.eq (g2 := F0 m 4 ls []) rfl ?_
  refine lv_aload_n (k := 0) hx hb (by decide +kernel) rfl (lv_at hl 0 rfl) ?_
  refine lv_bipush (n := 20) (v := 20) hx hb (by decide +kernel) (by decide) ?_
  refine va_newa (atype := .int) (ty := .int) (n := 20) (N' := 20) (a0 := (20, .inl fun _ => 0)) hx hb (hts _ (mx_bg 80 (by decide +kernel) (by decide +kernel))) rfl hK hP hD hS hA (fun cA => rfl) (by decide) (by decide) (by decide) (Nat.le_of_ble_eq_true rfl) (Nat.le_of_ble_eq_true rfl) (by decide +kernel) (fun q7 c7 H hK hP hD hS => ?_)
  have hP : va_P D vwCl [(h0, .inr (1, [.null, .int 0])), (q7, .inl (c7, 20, .inl fun _ => 0))] H := hP
  have hD : va_D A [(h0, .inr (1, [.null, .int 0])), (q7, .inl (c7, 20, .inl fun _ => 0))] := hD
  have hK : va_K D vwCl [(c7, .int)] s := hK
  refine W.widen (k := 1) (n := 20) (Nat.le_of_ble_eq_true rfl) (Nat.le_of_ble_eq_true rfl) ?_
  refine va_putF (D := D) (cl := vwCl) (ci := 1) (v := .ref q7) (ty := .array .int) (C := RX1) (T := TX1) (N := 2) (own := RX1) (ref := RX1) (index := 11) hx hb hts (k_in (ci := 1) rfl) tyX1 tyX1_ok nmX1 hown hK hP hD hS 0 rfl rfl 0 (by decide) (hts _ (mx_bg 100 (by decide +kernel) (by decide +kernel))) (fun _ h9 => h9) rfl hin rfl (by decide +kernel) rfl rfl (Nat.le_of_ble_eq_true rfl) (by decide +kernel) (fun H locs hP hD hS => ?_)
  have hP : va_P D vwCl [(h0, .inr (1, [.ref q7, .int 0])), (q7, .inl (c7, 20, .inl fun _ => 0))] H := hP
  have hD : va_D A [(h0, .inr (1, [.ref q7, .int 0])), (q7, .inl (c7, 20, .inl fun _ => 0))] := hD
  refine lv_aload_n (k := 0) hx hb (by decide +kernel) rfl (lv_at hl 0 rfl) ?_
  refine lv_iconst (n := 0) (v := 0) hx hb (by decide +kernel) (by decide) ?_
  refine va_put (D := D) (cl := vwCl) (ci := 1) (v := .int 0) (ty := .int) (C := RX1) (T := TX1) (N := 2) (own := RX1) (ref := RX1) (index := 15) hx hb hts (k_in (ci := 1) rfl) tyX1 tyX1_ok nmX1 hown hK hP hD hS 0 rfl rfl 1 (by decide) (hts _ (mx_bg 101 (by decide +kernel) (by decide +kernel))) (fun _ h9 => h9) rfl (by decide +kernel) (by decide) (by decide) (Nat.le_of_ble_eq_true rfl) (by decide +kernel) (fun H locs hP hD hS => ?_)
  have hP : va_P D vwCl [(h0, .inr (1, [.ref q7, .int 0])), (q7, .inl (c7, 20, .inl fun _ => 0))] H := hP
  have hD : va_D A [(h0, .inr (1, [.ref q7, .int 0])), (q7, .inl (c7, 20, .inl fun _ => 0))] := hD
  exact W.vret hx hb hr (fun t ht hW => ⟨⟨(), rfl, trivial, fun i => ([q7] : List Nat).getD i 0, fun i => ([c7] : List Nat).getD i 0, by rw [ht]; exact hP, va_K.moved hW.alike hK, hD⟩, hS.F ht⟩) hS.2.2 (by decide +kernel)
def kW_X6 (h : Nat) (as : Nat → Nat) (cs : Nat → ClassId) : va_W := [(h, .inr (6, [.ref (as 0), .ref (as 1), .ref (as 2), .ref (as 3), .ref (as 4), .ref (as 5), .ref (as 6), .int 0, .int 0])), (as 0, .inl (cs 0, 5, .inr (.inr (.inr (.inr fun i => if i < 5 then some (as 0 + 1 + i) else none))))), (as 0 + 1 + 0, .inl (cs 1, 16, .inl fun _ => 0)), (as 0 + 1 + 1, .inl (cs 1, 16, .inl fun _ => 0)), (as 0 + 1 + 2, .inl (cs 1, 16, .inl fun _ => 0)), (as 0 + 1 + 3, .inl (cs 1, 16, .inl fun _ => 0)), (as 0 + 1 + 4, .inl (cs 1, 16, .inl fun _ => 0)), (as 1, .inl (cs 2, 64, .inl fun _ => 0)), (as 2, .inl (cs 3, 64, .inl fun _ => 0)), (as 3, .inl (cs 4, 64, .inl fun _ => 0)), (as 4, .inl (cs 5, 64, .inl fun _ => 0)), (as 5, .inl (cs 6, 64, .inl fun _ => 0)), (as 6, .inl (cs 7, 64, .inl fun _ => 0))]
def kT_X6 (cs : Nat → ClassId) : List (ClassId × FieldType) := [(cs 0, .array .int), (cs 1, .int), (cs 2, .int), (cs 3, .int), (cs 4, .int), (cs 5, .int), (cs 6, .int), (cs 7, .int)]
set_option maxRecDepth 100000 in
set_option maxHeartbeats 4000000 in
theorem k_X6 (l : Launch) (D : va_G) (h0 sz : Nat) : Met l yX6_init (k_ws yX6_init cX6_init) ({ frames := 1, cells := 12, slots := 469, locals := 12 }) (k_Pc D h0 sz 6 [.null, .null, .null, .null, .null, .null, .null, .int 0, .int 0]) (k_Qc D (va_A [(h0, .inr (6, [.null, .null, .null, .null, .null, .null, .null, .int 0, .int 0]))] sz) (kW_X6 h0) kT_X6) 12 469 (va_A [(h0, .inr (6, [.null, .null, .null, .null, .null, .null, .null, .int 0, .int 0]))] sz) := by
  refine Met.ofW (cc := cX6_init) (maxL := 1) (ret := none) (by decide +kernel) rfl ?_
  intro p e s m args below meth c s₁ B hml hv
  obtain ⟨rfl, hsz, hP, hK, hD0, hO1, hO2⟩ := hv
  have hx := B.exec
  have hb := B.bytes
  have hr := B.returns
  have hts0 := atoms_spec (ws := k_ws yX6_init cX6_init) B.pre
  have hts := fun w hw => hts0 w (List.mem_cons_of_mem _ hw)
  have hown : s.vm.findClass RX6 = some m.cls := findClass_of_methodNamed B.named
  have hlocks := B.notSynchronized
  have hin : meth.name = "<init>" := (name_of_methodNamed B.named B.method).1
  subst hsz
  have hD := hD0.self (sz := s.heap.size)
  generalize hAe : va_A [(h0, .inr (6, [.null, .null, .null, .null, .null, .null, .null, .int 0, .int 0]))] s.heap.size = A at hD ⊢
  have hA : ∀ q : Nat, s.heap.size ≤ q → A q := fun q h => by rw [← hAe]; exact Or.inr h
  have hS : va_S A s.heap s.heap [] := va_S.rf
  have hP : va_P D vwCl [(h0, .inr (6, [.null, .null, .null, .null, .null, .null, .null, .int 0, .int 0]))] s.heap := hP
  have hl := lv_entry ([.ref h0]) (n := 1) (Nat.le_of_ble_eq_true rfl)
  rw [lg_entry_eq]
  generalize (lg_sl ([.ref h0]) ++ List.replicate (1 - (lg_sl ([.ref h0])).length) Slot.unset).toArray = ls at hl ⊢
  have hl : lv_has ls 1 [(0, .ref h0)] := hl
  refine lv_aload_n (k := 0) hx hb (by decide +kernel) rfl (lv_at hl 0 rfl) ?_
  refine W.objInit (own := RX6) (idx := 3) hx hb hown (hts _ (mx_bg 112 (by decide +kernel) (by decide +kernel))) (hts _ k_w1) (hts _ k_w2) rfl (by rw [hml]; exact hl.1) rfl (show decode cX6_init 1 = .ok (.invokespecial 3, 3) from by decide +kernel) (Nat.le_of_ble_eq_true rfl) (Nat.le_of_ble_eq_true rfl) ?_
  refine W.eq (g2 := F0 m 4 ls []) rfl ?_
  refine lv_aload_n (k := 0) hx hb (by decide +kernel) rfl (lv_at hl 0 rfl) ?_
  refine lv_iconst (n := 5) (v := 5) hx hb (by decide +kernel) (by decide) ?_
  refine lv_bipush (n := 16) (v := 16) hx hb (by decide +kernel) (by decide) ?_
  refine mm_multi (own := RX6) (index := 13) (ty := .int) (n := 5) (k := 16) (N := 5) (M := 16) (a0 := (16, .inl fun _ => 0)) hx hb hown (hts _ (mx_bg 113 (by decide +kernel) (by decide +kernel))) hO1 (hts _ (mx_bg 80 (by decide +kernel) (by decide +kernel))) hK hP hD hS hA rfl (by decide) (by decide) (by decide) (by decide) (by decide) (by decide) (by decide) rfl (Or.inl rfl) (fun cB => rfl) (Nat.le_of_ble_eq_true rfl) (Nat.le_of_ble_eq_true rfl) (by decide +kernel) (fun q8 c8 d8 H hK hP hD hS => ?_)
  have hP : va_P D vwCl [(h0, .inr (6, [.null, .null, .null, .null, .null, .null, .null, .int 0, .int 0])), (q8, .inl (c8, 5, .inr (.inr (.inr (.inr fun i => if i < 5 then some (q8 + 1 + i) else none))))), (q8 + 1 + 0, .inl (d8, 16, .inl fun _ => 0)), (q8 + 1 + 1, .inl (d8, 16, .inl fun _ => 0)), (q8 + 1 + 2, .inl (d8, 16, .inl fun _ => 0)), (q8 + 1 + 3, .inl (d8, 16, .inl fun _ => 0)), (q8 + 1 + 4, .inl (d8, 16, .inl fun _ => 0))] H := hP
  have hD : va_D A [(h0, .inr (6, [.null, .null, .null, .null, .null, .null, .null, .int 0, .int 0])), (q8, .inl (c8, 5, .inr (.inr (.inr (.inr fun i => if i < 5 then some (q8 + 1 + i) else none))))), (q8 + 1 + 0, .inl (d8, 16, .inl fun _ => 0)), (q8 + 1 + 1, .inl (d8, 16, .inl fun _ => 0)), (q8 + 1 + 2, .inl (d8, 16, .inl fun _ => 0)), (q8 + 1 + 3, .inl (d8, 16, .inl fun _ => 0)), (q8 + 1 + 4, .inl (d8, 16, .inl fun _ => 0))] := hD
  have hK : va_K D vwCl [(c8, .array .int), (d8, .int)] s := hK
  refine W.widen (k := 6) (n := 85) (Nat.le_of_ble_eq_true rfl) (Nat.le_of_ble_eq_true rfl) ?_
  refine va_putF (D := D) (cl := vwCl) (ci := 6) (v := .ref q8) (ty := .array (.array .int)) (C := RX6) (T := TX6) (N := 9) (own := RX6) (ref := RX6) (index := 15) hx hb hts (k_in (ci := 6) rfl) tyX6 tyX6_ok nmX6 hown hK hP hD hS 0 rfl rfl 0 (by decide) (hts _ (mx_bg 115 (by decide +kernel) (by decide +kernel))) (fun _ h9 => h9) rfl hin rfl (by decide +kernel) rfl rfl (Nat.le_of_ble_eq_true rfl) (by decide +kernel) (fun H locs hP hD hS => ?_)
  have hP : va_P D vwCl [(h0, .inr (6, [.ref q8, .null, .null, .null, .null, .null, .null, .int 0, .int 0])), (q8, .inl (c8, 5, .inr (.inr (.inr (.inr fun i => if i < 5 then some (q8 + 1 + i) else none))))), (q8 + 1 + 0, .inl (d8, 16, .inl fun _ => 0)), (q8 + 1 + 1, .inl (d8, 16, .inl fun _ => 0)), (q8 + 1 + 2, .inl (d8, 16, .inl fun _ => 0)), (q8 + 1 + 3, .inl (d8, 16, .inl fun _ => 0)), (q8 + 1 + 4, .inl (d8, 16, .inl fun _ => 0))] H := hP
  have hD : va_D A [(h0, .inr (6, [.ref q8, .null, .null, .null, .null, .null, .null, .int 0, .int 0])), (q8, .inl (c8, 5, .inr (.inr (.inr (.inr fun i => if i < 5 then some (q8 + 1 + i) else none))))), (q8 + 1 + 0, .inl (d8, 16, .inl fun _ => 0)), (q8 + 1 + 1, .inl (d8, 16, .inl fun _ => 0)), (q8 + 1 + 2, .inl (d8, 16, .inl fun _ => 0)), (q8 + 1 + 3, .inl (d8, 16, .inl fun _ => 0)), (q8 + 1 + 4, .inl (d8, 16, .inl fun _ => 0))] := hD
  refine lv_aload_n (k := 0) hx hb (by decide +kernel) rfl (lv_at hl 0 rfl) ?_
  refine lv_bipush (n := 64) (v := 64) hx hb (by decide +kernel) (by decide) ?_
  refine va_newa (atype := .int) (ty := .int) (n := 64) (N' := 64) (a0 := (64, .inl fun _ => 0)) hx hb (hts _ (mx_bg 80 (by decide +kernel) (by decide +kernel))) rfl hK hP hD hS hA (fun cA => rfl) (by decide) (by decide) (by decide) (Nat.le_of_ble_eq_true rfl) (Nat.le_of_ble_eq_true rfl) (by decide +kernel) (fun q18 c18 H hK hP hD hS => ?_)
  have hP : va_P D vwCl [(h0, .inr (6, [.ref q8, .null, .null, .null, .null, .null, .null, .int 0, .int 0])), (q8, .inl (c8, 5, .inr (.inr (.inr (.inr fun i => if i < 5 then some (q8 + 1 + i) else none))))), (q8 + 1 + 0, .inl (d8, 16, .inl fun _ => 0)), (q8 + 1 + 1, .inl (d8, 16, .inl fun _ => 0)), (q8 + 1 + 2, .inl (d8, 16, .inl fun _ => 0)), (q8 + 1 + 3, .inl (d8, 16, .inl fun _ => 0)), (q8 + 1 + 4, .inl (d8, 16, .inl fun _ => 0)), (q18, .inl (c18, 64, .inl fun _ => 0))] H := hP
  have hD : va_D A [(h0, .inr (6, [.ref q8, .null, .null, .null, .null, .null, .null, .int 0, .int 0])), (q8, .inl (c8, 5, .inr (.inr (.inr (.inr fun i => if i < 5 then some (q8 + 1 + i) else none))))), (q8 + 1 + 0, .inl (d8, 16, .inl fun _ => 0)), (q8 + 1 + 1, .inl (d8, 16, .inl fun _ => 0)), (q8 + 1 + 2, .inl (d8, 16, .inl fun _ => 0)), (q8 + 1 + 3, .inl (d8, 16, .inl fun _ => 0)), (q8 + 1 + 4, .inl (d8, 16, .inl fun _ => 0)), (q18, .inl (c18, 64, .inl fun _ => 0))] := hD
  have hK : va_K D vwCl [(c8, .array .int), (d8, .int), (c18, .int)] s := hK
  refine W.widen (k := 7) (n := 149) (Nat.le_of_ble_eq_true rfl) (Nat.le_of_ble_eq_true rfl) ?_
  refine va_putF (D := D) (cl := vwCl) (ci := 6) (v := .ref q18) (ty := .array .int) (C := RX6) (T := TX6) (N := 9) (own := RX6) (ref := RX6) (index := 18) hx hb hts (k_in (ci := 6) rfl) tyX6 tyX6_ok nmX6 hown hK hP hD hS 0 rfl rfl 1 (by decide) (hts _ (mx_bg 116 (by decide +kernel) (by decide +kernel))) (fun _ h9 => h9) rfl hin rfl (by decide +kernel) rfl rfl (Nat.le_of_ble_eq_true rfl) (by decide +kernel) (fun H locs hP hD hS => ?_)
  have hP : va_P D vwCl [(h0, .inr (6, [.ref q8, .ref q18, .null, .null, .null, .null, .null, .int 0, .int 0])), (q8, .inl (c8, 5, .inr (.inr (.inr (.inr fun i => if i < 5 then some (q8 + 1 + i) else none))))), (q8 + 1 + 0, .inl (d8, 16, .inl fun _ => 0)), (q8 + 1 + 1, .inl (d8, 16, .inl fun _ => 0)), (q8 + 1 + 2, .inl (d8, 16, .inl fun _ => 0)), (q8 + 1 + 3, .inl (d8, 16, .inl fun _ => 0)), (q8 + 1 + 4, .inl (d8, 16, .inl fun _ => 0)), (q18, .inl (c18, 64, .inl fun _ => 0))] H := hP
  have hD : va_D A [(h0, .inr (6, [.ref q8, .ref q18, .null, .null, .null, .null, .null, .int 0, .int 0])), (q8, .inl (c8, 5, .inr (.inr (.inr (.inr fun i => if i < 5 then some (q8 + 1 + i) else none))))), (q8 + 1 + 0, .inl (d8, 16, .inl fun _ => 0)), (q8 + 1 + 1, .inl (d8, 16, .inl fun _ => 0)), (q8 + 1 + 2, .inl (d8, 16, .inl fun _ => 0)), (q8 + 1 + 3, .inl (d8, 16, .inl fun _ => 0)), (q8 + 1 + 4, .inl (d8, 16, .inl fun _ => 0)), (q18, .inl (c18, 64, .inl fun _ => 0))] := hD
  refine lv_aload_n (k := 0) hx hb (by decide +kernel) rfl (lv_at hl 0 rfl) ?_
  refine lv_bipush (n := 64) (v := 64) hx hb (by decide +kernel) (by decide) ?_
  refine va_newa (atype := .int) (ty := .int) (n := 64) (N' := 64) (a0 := (64, .inl fun _ => 0)) hx hb (hts _ (mx_bg 80 (by decide +kernel) (by decide +kernel))) rfl hK hP hD hS hA (fun cA => rfl) (by decide) (by decide) (by decide) (Nat.le_of_ble_eq_true rfl) (Nat.le_of_ble_eq_true rfl) (by decide +kernel) (fun q26 c26 H hK hP hD hS => ?_)
  have hP : va_P D vwCl [(h0, .inr (6, [.ref q8, .ref q18, .null, .null, .null, .null, .null, .int 0, .int 0])), (q8, .inl (c8, 5, .inr (.inr (.inr (.inr fun i => if i < 5 then some (q8 + 1 + i) else none))))), (q8 + 1 + 0, .inl (d8, 16, .inl fun _ => 0)), (q8 + 1 + 1, .inl (d8, 16, .inl fun _ => 0)), (q8 + 1 + 2, .inl (d8, 16, .inl fun _ => 0)), (q8 + 1 + 3, .inl (d8, 16, .inl fun _ => 0)), (q8 + 1 + 4, .inl (d8, 16, .inl fun _ => 0)), (q18, .inl (c18, 64, .inl fun _ => 0)), (q26, .inl (c26, 64, .inl fun _ => 0))] H := hP
  have hD : va_D A [(h0, .inr (6, [.ref q8, .ref q18, .null, .null, .null, .null, .null, .int 0, .int 0])), (q8, .inl (c8, 5, .inr (.inr (.inr (.inr fun i => if i < 5 then some (q8 + 1 + i) else none))))), (q8 + 1 + 0, .inl (d8, 16, .inl fun _ => 0)), (q8 + 1 + 1, .inl (d8, 16, .inl fun _ => 0)), (q8 + 1 + 2, .inl (d8, 16, .inl fun _ => 0)), (q8 + 1 + 3, .inl (d8, 16, .inl fun _ => 0)), (q8 + 1 + 4, .inl (d8, 16, .inl fun _ => 0)), (q18, .inl (c18, 64, .inl fun _ => 0)), (q26, .inl (c26, 64, .inl fun _ => 0))] := hD
  have hK : va_K D vwCl [(c8, .array .int), (d8, .int), (c18, .int), (c26, .int)] s := hK
  refine W.widen (k := 8) (n := 213) (Nat.le_of_ble_eq_true rfl) (Nat.le_of_ble_eq_true rfl) ?_
  refine va_putF (D := D) (cl := vwCl) (ci := 6) (v := .ref q26) (ty := .array .int) (C := RX6) (T := TX6) (N := 9) (own := RX6) (ref := RX6) (index := 22) hx hb hts (k_in (ci := 6) rfl) tyX6 tyX6_ok nmX6 hown hK hP hD hS 0 rfl rfl 2 (by decide) (hts _ (mx_bg 117 (by decide +kernel) (by decide +kernel))) (fun _ h9 => h9) rfl hin rfl (by decide +kernel) rfl rfl (Nat.le_of_ble_eq_true rfl) (by decide +kernel) (fun H locs hP hD hS => ?_)
  have hP : va_P D vwCl [(h0, .inr (6, [.ref q8, .ref q18, .ref q26, .null, .null, .null, .null, .int 0, .int 0])), (q8, .inl (c8, 5, .inr (.inr (.inr (.inr fun i => if i < 5 then some (q8 + 1 + i) else none))))), (q8 + 1 + 0, .inl (d8, 16, .inl fun _ => 0)), (q8 + 1 + 1, .inl (d8, 16, .inl fun _ => 0)), (q8 + 1 + 2, .inl (d8, 16, .inl fun _ => 0)), (q8 + 1 + 3, .inl (d8, 16, .inl fun _ => 0)), (q8 + 1 + 4, .inl (d8, 16, .inl fun _ => 0)), (q18, .inl (c18, 64, .inl fun _ => 0)), (q26, .inl (c26, 64, .inl fun _ => 0))] H := hP
  have hD : va_D A [(h0, .inr (6, [.ref q8, .ref q18, .ref q26, .null, .null, .null, .null, .int 0, .int 0])), (q8, .inl (c8, 5, .inr (.inr (.inr (.inr fun i => if i < 5 then some (q8 + 1 + i) else none))))), (q8 + 1 + 0, .inl (d8, 16, .inl fun _ => 0)), (q8 + 1 + 1, .inl (d8, 16, .inl fun _ => 0)), (q8 + 1 + 2, .inl (d8, 16, .inl fun _ => 0)), (q8 + 1 + 3, .inl (d8, 16, .inl fun _ => 0)), (q8 + 1 + 4, .inl (d8, 16, .inl fun _ => 0)), (q18, .inl (c18, 64, .inl fun _ => 0)), (q26, .inl (c26, 64, .inl fun _ => 0))] := hD
  refine lv_aload_n (k := 0) hx hb (by decide +kernel) rfl (lv_at hl 0 rfl) ?_
  refine lv_bipush (n := 64) (v := 64) hx hb (by decide +kernel) (by decide) ?_
  refine va_newa (atype := .int) (ty := .int) (n := 64) (N' := 64) (a0 := (64, .inl fun _ => 0)) hx hb (hts _ (mx_bg 80 (by decide +kernel) (by decide +kernel))) rfl hK hP hD hS hA (fun cA => rfl) (by decide) (by decide) (by decide) (Nat.le_of_ble_eq_true rfl) (Nat.le_of_ble_eq_true rfl) (by decide +kernel) (fun q34 c34 H hK hP hD hS => ?_)
  have hP : va_P D vwCl [(h0, .inr (6, [.ref q8, .ref q18, .ref q26, .null, .null, .null, .null, .int 0, .int 0])), (q8, .inl (c8, 5, .inr (.inr (.inr (.inr fun i => if i < 5 then some (q8 + 1 + i) else none))))), (q8 + 1 + 0, .inl (d8, 16, .inl fun _ => 0)), (q8 + 1 + 1, .inl (d8, 16, .inl fun _ => 0)), (q8 + 1 + 2, .inl (d8, 16, .inl fun _ => 0)), (q8 + 1 + 3, .inl (d8, 16, .inl fun _ => 0)), (q8 + 1 + 4, .inl (d8, 16, .inl fun _ => 0)), (q18, .inl (c18, 64, .inl fun _ => 0)), (q26, .inl (c26, 64, .inl fun _ => 0)), (q34, .inl (c34, 64, .inl fun _ => 0))] H := hP
  have hD : va_D A [(h0, .inr (6, [.ref q8, .ref q18, .ref q26, .null, .null, .null, .null, .int 0, .int 0])), (q8, .inl (c8, 5, .inr (.inr (.inr (.inr fun i => if i < 5 then some (q8 + 1 + i) else none))))), (q8 + 1 + 0, .inl (d8, 16, .inl fun _ => 0)), (q8 + 1 + 1, .inl (d8, 16, .inl fun _ => 0)), (q8 + 1 + 2, .inl (d8, 16, .inl fun _ => 0)), (q8 + 1 + 3, .inl (d8, 16, .inl fun _ => 0)), (q8 + 1 + 4, .inl (d8, 16, .inl fun _ => 0)), (q18, .inl (c18, 64, .inl fun _ => 0)), (q26, .inl (c26, 64, .inl fun _ => 0)), (q34, .inl (c34, 64, .inl fun _ => 0))] := hD
  have hK : va_K D vwCl [(c8, .array .int), (d8, .int), (c18, .int), (c26, .int), (c34, .int)] s := hK
  refine W.widen (k := 9) (n := 277) (Nat.le_of_ble_eq_true rfl) (Nat.le_of_ble_eq_true rfl) ?_
  refine va_putF (D := D) (cl := vwCl) (ci := 6) (v := .ref q34) (ty := .array .int) (C := RX6) (T := TX6) (N := 9) (own := RX6) (ref := RX6) (index := 25) hx hb hts (k_in (ci := 6) rfl) tyX6 tyX6_ok nmX6 hown hK hP hD hS 0 rfl rfl 3 (by decide) (hts _ (mx_bg 118 (by decide +kernel) (by decide +kernel))) (fun _ h9 => h9) rfl hin rfl (by decide +kernel) rfl rfl (Nat.le_of_ble_eq_true rfl) (by decide +kernel) (fun H locs hP hD hS => ?_)
  have hP : va_P D vwCl [(h0, .inr (6, [.ref q8, .ref q18, .ref q26, .ref q34, .null, .null, .null, .int 0, .int 0])), (q8, .inl (c8, 5, .inr (.inr (.inr (.inr fun i => if i < 5 then some (q8 + 1 + i) else none))))), (q8 + 1 + 0, .inl (d8, 16, .inl fun _ => 0)), (q8 + 1 + 1, .inl (d8, 16, .inl fun _ => 0)), (q8 + 1 + 2, .inl (d8, 16, .inl fun _ => 0)), (q8 + 1 + 3, .inl (d8, 16, .inl fun _ => 0)), (q8 + 1 + 4, .inl (d8, 16, .inl fun _ => 0)), (q18, .inl (c18, 64, .inl fun _ => 0)), (q26, .inl (c26, 64, .inl fun _ => 0)), (q34, .inl (c34, 64, .inl fun _ => 0))] H := hP
  have hD : va_D A [(h0, .inr (6, [.ref q8, .ref q18, .ref q26, .ref q34, .null, .null, .null, .int 0, .int 0])), (q8, .inl (c8, 5, .inr (.inr (.inr (.inr fun i => if i < 5 then some (q8 + 1 + i) else none))))), (q8 + 1 + 0, .inl (d8, 16, .inl fun _ => 0)), (q8 + 1 + 1, .inl (d8, 16, .inl fun _ => 0)), (q8 + 1 + 2, .inl (d8, 16, .inl fun _ => 0)), (q8 + 1 + 3, .inl (d8, 16, .inl fun _ => 0)), (q8 + 1 + 4, .inl (d8, 16, .inl fun _ => 0)), (q18, .inl (c18, 64, .inl fun _ => 0)), (q26, .inl (c26, 64, .inl fun _ => 0)), (q34, .inl (c34, 64, .inl fun _ => 0))] := hD
  refine lv_aload_n (k := 0) hx hb (by decide +kernel) rfl (lv_at hl 0 rfl) ?_
  refine lv_bipush (n := 64) (v := 64) hx hb (by decide +kernel) (by decide) ?_
  refine va_newa (atype := .int) (ty := .int) (n := 64) (N' := 64) (a0 := (64, .inl fun _ => 0)) hx hb (hts _ (mx_bg 80 (by decide +kernel) (by decide +kernel))) rfl hK hP hD hS hA (fun cA => rfl) (by decide) (by decide) (by decide) (Nat.le_of_ble_eq_true rfl) (Nat.le_of_ble_eq_true rfl) (by decide +kernel) (fun q42 c42 H hK hP hD hS => ?_)
  have hP : va_P D vwCl [(h0, .inr (6, [.ref q8, .ref q18, .ref q26, .ref q34, .null, .null, .null, .int 0, .int 0])), (q8, .inl (c8, 5, .inr (.inr (.inr (.inr fun i => if i < 5 then some (q8 + 1 + i) else none))))), (q8 + 1 + 0, .inl (d8, 16, .inl fun _ => 0)), (q8 + 1 + 1, .inl (d8, 16, .inl fun _ => 0)), (q8 + 1 + 2, .inl (d8, 16, .inl fun _ => 0)), (q8 + 1 + 3, .inl (d8, 16, .inl fun _ => 0)), (q8 + 1 + 4, .inl (d8, 16, .inl fun _ => 0)), (q18, .inl (c18, 64, .inl fun _ => 0)), (q26, .inl (c26, 64, .inl fun _ => 0)), (q34, .inl (c34, 64, .inl fun _ => 0)), (q42, .inl (c42, 64, .inl fun _ => 0))] H := hP
  have hD : va_D A [(h0, .inr (6, [.ref q8, .ref q18, .ref q26, .ref q34, .null, .null, .null, .int 0, .int 0])), (q8, .inl (c8, 5, .inr (.inr (.inr (.inr fun i => if i < 5 then some (q8 + 1 + i) else none))))), (q8 + 1 + 0, .inl (d8, 16, .inl fun _ => 0)), (q8 + 1 + 1, .inl (d8, 16, .inl fun _ => 0)), (q8 + 1 + 2, .inl (d8, 16, .inl fun _ => 0)), (q8 + 1 + 3, .inl (d8, 16, .inl fun _ => 0)), (q8 + 1 + 4, .inl (d8, 16, .inl fun _ => 0)), (q18, .inl (c18, 64, .inl fun _ => 0)), (q26, .inl (c26, 64, .inl fun _ => 0)), (q34, .inl (c34, 64, .inl fun _ => 0)), (q42, .inl (c42, 64, .inl fun _ => 0))] := hD
  have hK : va_K D vwCl [(c8, .array .int), (d8, .int), (c18, .int), (c26, .int), (c34, .int), (c42, .int)] s := hK
  refine W.widen (k := 10) (n := 341) (Nat.le_of_ble_eq_true rfl) (Nat.le_of_ble_eq_true rfl) ?_
  refine va_putF (D := D) (cl := vwCl) (ci := 6) (v := .ref q42) (ty := .array .int) (C := RX6) (T := TX6) (N := 9) (own := RX6) (ref := RX6) (index := 28) hx hb hts (k_in (ci := 6) rfl) tyX6 tyX6_ok nmX6 hown hK hP hD hS 0 rfl rfl 4 (by decide) (hts _ (mx_bg 119 (by decide +kernel) (by decide +kernel))) (fun _ h9 => h9) rfl hin rfl (by decide +kernel) rfl rfl (Nat.le_of_ble_eq_true rfl) (by decide +kernel) (fun H locs hP hD hS => ?_)
  have hP : va_P D vwCl [(h0, .inr (6, [.ref q8, .ref q18, .ref q26, .ref q34, .ref q42, .null, .null, .int 0, .int 0])), (q8, .inl (c8, 5, .inr (.inr (.inr (.inr fun i => if i < 5 then some (q8 + 1 + i) else none))))), (q8 + 1 + 0, .inl (d8, 16, .inl fun _ => 0)), (q8 + 1 + 1, .inl (d8, 16, .inl fun _ => 0)), (q8 + 1 + 2, .inl (d8, 16, .inl fun _ => 0)), (q8 + 1 + 3, .inl (d8, 16, .inl fun _ => 0)), (q8 + 1 + 4, .inl (d8, 16, .inl fun _ => 0)), (q18, .inl (c18, 64, .inl fun _ => 0)), (q26, .inl (c26, 64, .inl fun _ => 0)), (q34, .inl (c34, 64, .inl fun _ => 0)), (q42, .inl (c42, 64, .inl fun _ => 0))] H := hP
  have hD : va_D A [(h0, .inr (6, [.ref q8, .ref q18, .ref q26, .ref q34, .ref q42, .null, .null, .int 0, .int 0])), (q8, .inl (c8, 5, .inr (.inr (.inr (.inr fun i => if i < 5 then some (q8 + 1 + i) else none))))), (q8 + 1 + 0, .inl (d8, 16, .inl fun _ => 0)), (q8 + 1 + 1, .inl (d8, 16, .inl fun _ => 0)), (q8 + 1 + 2, .inl (d8, 16, .inl fun _ => 0)), (q8 + 1 + 3, .inl (d8, 16, .inl fun _ => 0)), (q8 + 1 + 4, .inl (d8, 16, .inl fun _ => 0)), (q18, .inl (c18, 64, .inl fun _ => 0)), (q26, .inl (c26, 64, .inl fun _ => 0)), (q34, .inl (c34, 64, .inl fun _ => 0)), (q42, .inl (c42, 64, .inl fun _ => 0))] := hD
  refine lv_aload_n (k := 0) hx hb (by decide +kernel) rfl (lv_at hl 0 rfl) ?_
  refine lv_bipush (n := 64) (v := 64) hx hb (by decide +kernel) (by decide) ?_
  refine va_newa (atype := .int) (ty := .int) (n := 64) (N' := 64) (a0 := (64, .inl fun _ => 0)) hx hb (hts _ (mx_bg 80 (by decide +kernel) (by decide +kernel))) rfl hK hP hD hS hA (fun cA => rfl) (by decide) (by decide) (by decide) (Nat.le_of_ble_eq_true rfl) (Nat.le_of_ble_eq_true rfl) (by decide +kernel) (fun q50 c50 H hK hP hD hS => ?_)
  have hP : va_P D vwCl [(h0, .inr (6, [.ref q8, .ref q18, .ref q26, .ref q34, .ref q42, .null, .null, .int 0, .int 0])), (q8, .inl (c8, 5, .inr (.inr (.inr (.inr fun i => if i < 5 then some (q8 + 1 + i) else none))))), (q8 + 1 + 0, .inl (d8, 16, .inl fun _ => 0)), (q8 + 1 + 1, .inl (d8, 16, .inl fun _ => 0)), (q8 + 1 + 2, .inl (d8, 16, .inl fun _ => 0)), (q8 + 1 + 3, .inl (d8, 16, .inl fun _ => 0)), (q8 + 1 + 4, .inl (d8, 16, .inl fun _ => 0)), (q18, .inl (c18, 64, .inl fun _ => 0)), (q26, .inl (c26, 64, .inl fun _ => 0)), (q34, .inl (c34, 64, .inl fun _ => 0)), (q42, .inl (c42, 64, .inl fun _ => 0)), (q50, .inl (c50, 64, .inl fun _ => 0))] H := hP
  have hD : va_D A [(h0, .inr (6, [.ref q8, .ref q18, .ref q26, .ref q34, .ref q42, .null, .null, .int 0, .int 0])), (q8, .inl (c8, 5, .inr (.inr (.inr (.inr fun i => if i < 5 then some (q8 + 1 + i) else none))))), (q8 + 1 + 0, .inl (d8, 16, .inl fun _ => 0)), (q8 + 1 + 1, .inl (d8, 16, .inl fun _ => 0)), (q8 + 1 + 2, .inl (d8, 16, .inl fun _ => 0)), (q8 + 1 + 3, .inl (d8, 16, .inl fun _ => 0)), (q8 + 1 + 4, .inl (d8, 16, .inl fun _ => 0)), (q18, .inl (c18, 64, .inl fun _ => 0)), (q26, .inl (c26, 64, .inl fun _ => 0)), (q34, .inl (c34, 64, .inl fun _ => 0)), (q42, .inl (c42, 64, .inl fun _ => 0)), (q50, .inl (c50, 64, .inl fun _ => 0))] := hD
  have hK : va_K D vwCl [(c8, .array .int), (d8, .int), (c18, .int), (c26, .int), (c34, .int), (c42, .int), (c50, .int)] s := hK
  refine W.widen (k := 11) (n := 405) (Nat.le_of_ble_eq_true rfl) (Nat.le_of_ble_eq_true rfl) ?_
  refine va_putF (D := D) (cl := vwCl) (ci := 6) (v := .ref q50) (ty := .array .int) (C := RX6) (T := TX6) (N := 9) (own := RX6) (ref := RX6) (index := 31) hx hb hts (k_in (ci := 6) rfl) tyX6 tyX6_ok nmX6 hown hK hP hD hS 0 rfl rfl 5 (by decide) (hts _ (mx_bg 120 (by decide +kernel) (by decide +kernel))) (fun _ h9 => h9) rfl hin rfl (by decide +kernel) rfl rfl (Nat.le_of_ble_eq_true rfl) (by decide +kernel) (fun H locs hP hD hS => ?_)
  have hP : va_P D vwCl [(h0, .inr (6, [.ref q8, .ref q18, .ref q26, .ref q34, .ref q42, .ref q50, .null, .int 0, .int 0])), (q8, .inl (c8, 5, .inr (.inr (.inr (.inr fun i => if i < 5 then some (q8 + 1 + i) else none))))), (q8 + 1 + 0, .inl (d8, 16, .inl fun _ => 0)), (q8 + 1 + 1, .inl (d8, 16, .inl fun _ => 0)), (q8 + 1 + 2, .inl (d8, 16, .inl fun _ => 0)), (q8 + 1 + 3, .inl (d8, 16, .inl fun _ => 0)), (q8 + 1 + 4, .inl (d8, 16, .inl fun _ => 0)), (q18, .inl (c18, 64, .inl fun _ => 0)), (q26, .inl (c26, 64, .inl fun _ => 0)), (q34, .inl (c34, 64, .inl fun _ => 0)), (q42, .inl (c42, 64, .inl fun _ => 0)), (q50, .inl (c50, 64, .inl fun _ => 0))] H := hP
  have hD : va_D A [(h0, .inr (6, [.ref q8, .ref q18, .ref q26, .ref q34, .ref q42, .ref q50, .null, .int 0, .int 0])), (q8, .inl (c8, 5, .inr (.inr (.inr (.inr fun i => if i < 5 then some (q8 + 1 + i) else none))))), (q8 + 1 + 0, .inl (d8, 16, .inl fun _ => 0)), (q8 + 1 + 1, .inl (d8, 16, .inl fun _ => 0)), (q8 + 1 + 2, .inl (d8, 16, .inl fun _ => 0)), (q8 + 1 + 3, .inl (d8, 16, .inl fun _ => 0)), (q8 + 1 + 4, .inl (d8, 16, .inl fun _ => 0)), (q18, .inl (c18, 64, .inl fun _ => 0)), (q26, .inl (c26, 64, .inl fun _ => 0)), (q34, .inl (c34, 64, .inl fun _ => 0)), (q42, .inl (c42, 64, .inl fun _ => 0)), (q50, .inl (c50, 64, .inl fun _ => 0))] := hD
  refine lv_aload_n (k := 0) hx hb (by decide +kernel) rfl (lv_at hl 0 rfl) ?_
  refine lv_bipush (n := 64) (v := 64) hx hb (by decide +kernel) (by decide) ?_
  refine va_newa (atype := .int) (ty := .int) (n := 64) (N' := 64) (a0 := (64, .inl fun _ => 0)) hx hb (hts _ (mx_bg 80 (by decide +kernel) (by decide +kernel))) rfl hK hP hD hS hA (fun cA => rfl) (by decide) (by decide) (by decide) (Nat.le_of_ble_eq_true rfl) (Nat.le_of_ble_eq_true rfl) (by decide +kernel) (fun q58 c58 H hK hP hD hS => ?_)
  have hP : va_P D vwCl [(h0, .inr (6, [.ref q8, .ref q18, .ref q26, .ref q34, .ref q42, .ref q50, .null, .int 0, .int 0])), (q8, .inl (c8, 5, .inr (.inr (.inr (.inr fun i => if i < 5 then some (q8 + 1 + i) else none))))), (q8 + 1 + 0, .inl (d8, 16, .inl fun _ => 0)), (q8 + 1 + 1, .inl (d8, 16, .inl fun _ => 0)), (q8 + 1 + 2, .inl (d8, 16, .inl fun _ => 0)), (q8 + 1 + 3, .inl (d8, 16, .inl fun _ => 0)), (q8 + 1 + 4, .inl (d8, 16, .inl fun _ => 0)), (q18, .inl (c18, 64, .inl fun _ => 0)), (q26, .inl (c26, 64, .inl fun _ => 0)), (q34, .inl (c34, 64, .inl fun _ => 0)), (q42, .inl (c42, 64, .inl fun _ => 0)), (q50, .inl (c50, 64, .inl fun _ => 0)), (q58, .inl (c58, 64, .inl fun _ => 0))] H := hP
  have hD : va_D A [(h0, .inr (6, [.ref q8, .ref q18, .ref q26, .ref q34, .ref q42, .ref q50, .null, .int 0, .int 0])), (q8, .inl (c8, 5, .inr (.inr (.inr (.inr fun i => if i < 5 then some (q8 + 1 + i) else none))))), (q8 + 1 + 0, .inl (d8, 16, .inl fun _ => 0)), (q8 + 1 + 1, .inl (d8, 16, .inl fun _ => 0)), (q8 + 1 + 2, .inl (d8, 16, .inl fun _ => 0)), (q8 + 1 + 3, .inl (d8, 16, .inl fun _ => 0)), (q8 + 1 + 4, .inl (d8, 16, .inl fun _ => 0)), (q18, .inl (c18, 64, .inl fun _ => 0)), (q26, .inl (c26, 64, .inl fun _ => 0)), (q34, .inl (c34, 64, .inl fun _ => 0)), (q42, .inl (c42, 64, .inl fun _ => 0)), (q50, .inl (c50, 64, .inl fun _ => 0)), (q58, .inl (c58, 64, .inl fun _ => 0))] := hD
  have hK : va_K D vwCl [(c8, .array .int), (d8, .int), (c18, .int), (c26, .int), (c34, .int), (c42, .int), (c50, .int), (c58, .int)] s := hK
  refine W.widen (k := 12) (n := 469) (Nat.le_of_ble_eq_true rfl) (Nat.le_of_ble_eq_true rfl) ?_
  refine va_putF (D := D) (cl := vwCl) (ci := 6) (v := .ref q58) (ty := .array .int) (C := RX6) (T := TX6) (N := 9) (own := RX6) (ref := RX6) (index := 34) hx hb hts (k_in (ci := 6) rfl) tyX6 tyX6_ok nmX6 hown hK hP hD hS 0 rfl rfl 6 (by decide) (hts _ (mx_bg 121 (by decide +kernel) (by decide +kernel))) (fun _ h9 => h9) rfl hin rfl (by decide +kernel) rfl rfl (Nat.le_of_ble_eq_true rfl) (by decide +kernel) (fun H locs hP hD hS => ?_)
  have hP : va_P D vwCl [(h0, .inr (6, [.ref q8, .ref q18, .ref q26, .ref q34, .ref q42, .ref q50, .ref q58, .int 0, .int 0])), (q8, .inl (c8, 5, .inr (.inr (.inr (.inr fun i => if i < 5 then some (q8 + 1 + i) else none))))), (q8 + 1 + 0, .inl (d8, 16, .inl fun _ => 0)), (q8 + 1 + 1, .inl (d8, 16, .inl fun _ => 0)), (q8 + 1 + 2, .inl (d8, 16, .inl fun _ => 0)), (q8 + 1 + 3, .inl (d8, 16, .inl fun _ => 0)), (q8 + 1 + 4, .inl (d8, 16, .inl fun _ => 0)), (q18, .inl (c18, 64, .inl fun _ => 0)), (q26, .inl (c26, 64, .inl fun _ => 0)), (q34, .inl (c34, 64, .inl fun _ => 0)), (q42, .inl (c42, 64, .inl fun _ => 0)), (q50, .inl (c50, 64, .inl fun _ => 0)), (q58, .inl (c58, 64, .inl fun _ => 0))] H := hP
  have hD : va_D A [(h0, .inr (6, [.ref q8, .ref q18, .ref q26, .ref q34, .ref q42, .ref q50, .ref q58, .int 0, .int 0])), (q8, .inl (c8, 5, .inr (.inr (.inr (.inr fun i => if i < 5 then some (q8 + 1 + i) else none))))), (q8 + 1 + 0, .inl (d8, 16, .inl fun _ => 0)), (q8 + 1 + 1, .inl (d8, 16, .inl fun _ => 0)), (q8 + 1 + 2, .inl (d8, 16, .inl fun _ => 0)), (q8 + 1 + 3, .inl (d8, 16, .inl fun _ => 0)), (q8 + 1 + 4, .inl (d8, 16, .inl fun _ => 0)), (q18, .inl (c18, 64, .inl fun _ => 0)), (q26, .inl (c26, 64, .inl fun _ => 0)), (q34, .inl (c34, 64, .inl fun _ => 0)), (q42, .inl (c42, 64, .inl fun _ => 0)), (q50, .inl (c50, 64, .inl fun _ => 0)), (q58, .inl (c58, 64, .inl fun _ => 0))] := hD
  refine lv_aload_n (k := 0) hx hb (by decide +kernel) rfl (lv_at hl 0 rfl) ?_
  refine lv_iconst (n := 0) (v := 0) hx hb (by decide +kernel) (by decide) ?_
  refine va_put (D := D) (cl := vwCl) (ci := 6) (v := .int 0) (ty := .int) (C := RX6) (T := TX6) (N := 9) (own := RX6) (ref := RX6) (index := 37) hx hb hts (k_in (ci := 6) rfl) tyX6 tyX6_ok nmX6 hown hK hP hD hS 0 rfl rfl 7 (by decide) (hts _ (mx_bg 122 (by decide +kernel) (by decide +kernel))) (fun _ h9 => h9) rfl (by decide +kernel) (by decide) (by decide) (Nat.le_of_ble_eq_true rfl) (by decide +kernel) (fun H locs hP hD hS => ?_)
  have hP : va_P D vwCl [(h0, .inr (6, [.ref q8, .ref q18, .ref q26, .ref q34, .ref q42, .ref q50, .ref q58, .int 0, .int 0])), (q8, .inl (c8, 5, .inr (.inr (.inr (.inr fun i => if i < 5 then some (q8 + 1 + i) else none))))), (q8 + 1 + 0, .inl (d8, 16, .inl fun _ => 0)), (q8 + 1 + 1, .inl (d8, 16, .inl fun _ => 0)), (q8 + 1 + 2, .inl (d8, 16, .inl fun _ => 0)), (q8 + 1 + 3, .inl (d8, 16, .inl fun _ => 0)), (q8 + 1 + 4, .inl (d8, 16, .inl fun _ => 0)), (q18, .inl (c18, 64, .inl fun _ => 0)), (q26, .inl (c26, 64, .inl fun _ => 0)), (q34, .inl (c34, 64, .inl fun _ => 0)), (q42, .inl (c42, 64, .inl fun _ => 0)), (q50, .inl (c50, 64, .inl fun _ => 0)), (q58, .inl (c58, 64, .inl fun _ => 0))] H := hP
  have hD : va_D A [(h0, .inr (6, [.ref q8, .ref q18, .ref q26, .ref q34, .ref q42, .ref q50, .ref q58, .int 0, .int 0])), (q8, .inl (c8, 5, .inr (.inr (.inr (.inr fun i => if i < 5 then some (q8 + 1 + i) else none))))), (q8 + 1 + 0, .inl (d8, 16, .inl fun _ => 0)), (q8 + 1 + 1, .inl (d8, 16, .inl fun _ => 0)), (q8 + 1 + 2, .inl (d8, 16, .inl fun _ => 0)), (q8 + 1 + 3, .inl (d8, 16, .inl fun _ => 0)), (q8 + 1 + 4, .inl (d8, 16, .inl fun _ => 0)), (q18, .inl (c18, 64, .inl fun _ => 0)), (q26, .inl (c26, 64, .inl fun _ => 0)), (q34, .inl (c34, 64, .inl fun _ => 0)), (q42, .inl (c42, 64, .inl fun _ => 0)), (q50, .inl (c50, 64, .inl fun _ => 0)), (q58, .inl (c58, 64, .inl fun _ => 0))] := hD
  refine lv_aload_n (k := 0) hx hb (by decide +kernel) rfl (lv_at hl 0 rfl) ?_
  refine lv_iconst (n := 0) (v := 0) hx hb (by decide +kernel) (by decide) ?_
  refine va_put (D := D) (cl := vwCl) (ci := 6) (v := .int 0) (ty := .int) (C := RX6) (T := TX6) (N := 9) (own := RX6) (ref := RX6) (index := 41) hx hb hts (k_in (ci := 6) rfl) tyX6 tyX6_ok nmX6 hown hK hP hD hS 0 rfl rfl 8 (by decide) (hts _ (mx_bg 123 (by decide +kernel) (by decide +kernel))) (fun _ h9 => h9) rfl (by decide +kernel) (by decide) (by decide) (Nat.le_of_ble_eq_true rfl) (by decide +kernel) (fun H locs hP hD hS => ?_)
  have hP : va_P D vwCl [(h0, .inr (6, [.ref q8, .ref q18, .ref q26, .ref q34, .ref q42, .ref q50, .ref q58, .int 0, .int 0])), (q8, .inl (c8, 5, .inr (.inr (.inr (.inr fun i => if i < 5 then some (q8 + 1 + i) else none))))), (q8 + 1 + 0, .inl (d8, 16, .inl fun _ => 0)), (q8 + 1 + 1, .inl (d8, 16, .inl fun _ => 0)), (q8 + 1 + 2, .inl (d8, 16, .inl fun _ => 0)), (q8 + 1 + 3, .inl (d8, 16, .inl fun _ => 0)), (q8 + 1 + 4, .inl (d8, 16, .inl fun _ => 0)), (q18, .inl (c18, 64, .inl fun _ => 0)), (q26, .inl (c26, 64, .inl fun _ => 0)), (q34, .inl (c34, 64, .inl fun _ => 0)), (q42, .inl (c42, 64, .inl fun _ => 0)), (q50, .inl (c50, 64, .inl fun _ => 0)), (q58, .inl (c58, 64, .inl fun _ => 0))] H := hP
  have hD : va_D A [(h0, .inr (6, [.ref q8, .ref q18, .ref q26, .ref q34, .ref q42, .ref q50, .ref q58, .int 0, .int 0])), (q8, .inl (c8, 5, .inr (.inr (.inr (.inr fun i => if i < 5 then some (q8 + 1 + i) else none))))), (q8 + 1 + 0, .inl (d8, 16, .inl fun _ => 0)), (q8 + 1 + 1, .inl (d8, 16, .inl fun _ => 0)), (q8 + 1 + 2, .inl (d8, 16, .inl fun _ => 0)), (q8 + 1 + 3, .inl (d8, 16, .inl fun _ => 0)), (q8 + 1 + 4, .inl (d8, 16, .inl fun _ => 0)), (q18, .inl (c18, 64, .inl fun _ => 0)), (q26, .inl (c26, 64, .inl fun _ => 0)), (q34, .inl (c34, 64, .inl fun _ => 0)), (q42, .inl (c42, 64, .inl fun _ => 0)), (q50, .inl (c50, 64, .inl fun _ => 0)), (q58, .inl (c58, 64, .inl fun _ => 0))] := hD
  exact W.vret hx hb hr (fun t ht hW => ⟨⟨(), rfl, trivial, fun i => ([q8, q18, q26, q34, q42, q50, q58] : List Nat).getD i 0, fun i => ([c8, d8, c18, c26, c34, c42, c50, c58] : List Nat).getD i 0, by rw [ht]; exact hP, va_K.moved hW.alike hK, hD⟩, hS.F ht⟩) hS.2.2 (by decide +kernel)
def kW_X9 (h : Nat) (as : Nat → Nat) (cs : Nat → ClassId) : va_W := [(h, .inr (9, [.ref (as 0), .int 0])), (as 0, .inl (cs 0, 11, .inr (.inr (.inr (.inr fun i => if i < 11 then some (as 0 + 1 + i) else none))))), (as 0 + 1 + 0, .inl (cs 1, 656, .inr (.inl fun _ => 0))), (as 0 + 1 + 1, .inl (cs 1, 656, .inr (.inl fun _ => 0))), (as 0 + 1 + 2, .inl (cs 1, 656, .inr (.inl fun _ => 0))), (as 0 + 1 + 3, .inl (cs 1, 656, .inr (.inl fun _ => 0))), (as 0 + 1 + 4, .inl (cs 1, 656, .inr (.inl fun _ => 0))), (as 0 + 1 + 5, .inl (cs 1, 656, .inr (.inl fun _ => 0))), (as 0 + 1 + 6, .inl (cs 1, 656, .inr (.inl fun _ => 0))), (as 0 + 1 + 7, .inl (cs 1, 656, .inr (.inl fun _ => 0))), (as 0 + 1 + 8, .inl (cs 1, 656, .inr (.inl fun _ => 0))), (as 0 + 1 + 9, .inl (cs 1, 656, .inr (.inl fun _ => 0))), (as 0 + 1 + 10, .inl (cs 1, 656, .inr (.inl fun _ => 0)))]
def kT_X9 (cs : Nat → ClassId) : List (ClassId × FieldType) := [(cs 0, .array .long), (cs 1, .long)]
set_option maxRecDepth 100000 in
set_option maxHeartbeats 4000000 in
theorem k_X9 (l : Launch) (D : va_G) (h0 sz : Nat) : Met l yX9_init (k_ws yX9_init cX9_init) ({ frames := 1, cells := 12, slots := 7227, locals := 12 }) (k_Pc D h0 sz 9 [.null, .int 0]) (k_Qc D (va_A [(h0, .inr (9, [.null, .int 0]))] sz) (kW_X9 h0) kT_X9) 12 7227 (va_A [(h0, .inr (9, [.null, .int 0]))] sz) := by
  refine Met.ofW (cc := cX9_init) (maxL := 1) (ret := none) (by decide +kernel) rfl ?_
  intro p e s m args below meth c s₁ B hml hv
  obtain ⟨rfl, hsz, hP, hK, hD0, hO1, hO2⟩ := hv
  have hx := B.exec
  have hb := B.bytes
  have hr := B.returns
  have hts0 := atoms_spec (ws := k_ws yX9_init cX9_init) B.pre
  have hts := fun w hw => hts0 w (List.mem_cons_of_mem _ hw)
  have hown : s.vm.findClass RX9 = some m.cls := findClass_of_methodNamed B.named
  have hlocks := B.notSynchronized
  have hin : meth.name = "<init>" := (name_of_methodNamed B.named B.method).1
  subst hsz
  have hD := hD0.self (sz := s.heap.size)
  generalize hAe : va_A [(h0, .inr (9, [.null, .int 0]))] s.heap.size = A at hD ⊢
  have hA : ∀ q : Nat, s.heap.size ≤ q → A q := fun q h => by rw [← hAe]; exact Or.inr h
  have hS : va_S A s.heap s.heap [] := va_S.rf
  have hP : va_P D vwCl [(h0, .inr (9, [.null, .int 0]))] s.heap := hP
  have hl := lv_entry ([.ref h0]) (n := 1) (Nat.le_of_ble_eq_true rfl)
  rw [lg_entry_eq]
  generalize (lg_sl ([.ref h0]) ++ List.replicate (1 - (lg_sl ([.ref h0])).length) Slot.unset).toArray = ls at hl ⊢
  have hl : lv_has ls 1 [(0, .ref h0)] := hl
  refine lv_aload_n (k := 0) hx hb (by decide +kernel) rfl (lv_at hl 0 rfl) ?_
  refine W.objInit (own := RX9) (idx := 5) hx hb hown (hts _ (mx_bg 148 (by decide +kernel) (by decide +kernel))) (hts _ k_w1) (hts _ k_w2) rfl (by rw [hml]; exact hl.1) rfl (show decode cX9_init 1 = .ok (.invokespecial 5, 3) from by decide +kernel) (Nat.le_of_ble_eq_true rfl) (Nat.le_of_ble_eq_true rfl) ?_
  refine W.eq (g2 := F0 m 4 ls []) rfl ?_
  refine lv_aload_n (k := 0) hx hb (by decide +kernel) rfl (lv_at hl 0 rfl) ?_
  refine lv_bipush (n := 11) (v := 11) hx hb (by decide +kernel) (by decide) ?_
  refine lv_sipush (n := 656) (v := 656) hx hb (by decide +kernel) (by decide) ?_
  refine mm_multi (own := RX9) (index := 15) (ty := .long) (n := 11) (k := 656) (N := 11) (M := 656) (a0 := (656, .inr (.inl fun _ => 0))) hx hb hown (hts _ (mx_bg 149 (by decide +kernel) (by decide +kernel))) hO2 (hts _ (mx_bg 158 (by decide +kernel) (by decide +kernel))) hK hP hD hS hA rfl (by decide) (by decide) (by decide) (by decide) (by decide) (by decide) (by decide) rfl (Or.inr rfl) (fun cB => rfl) (Nat.le_of_ble_eq_true rfl) (Nat.le_of_ble_eq_true rfl) (by decide +kernel) (fun q10 c10 d10 H hK hP hD hS => ?_)
  have hP : va_P D vwCl [(h0, .inr (9, [.null, .int 0])), (q10, .inl (c10, 11, .inr (.inr (.inr (.inr fun i => if i < 11 then some (q10 + 1 + i) else none))))), (q10 + 1 + 0, .inl (d10, 656, .inr (.inl fun _ => 0))), (q10 + 1 + 1, .inl (d10, 656, .inr (.inl fun _ => 0))), (q10 + 1 + 2, .inl (d10, 656, .inr (.inl fun _ => 0))), (q10 + 1 + 3, .inl (d10, 656, .inr (.inl fun _ => 0))), (q10 + 1 + 4, .inl (d10, 656, .inr (.inl fun _ => 0))), (q10 + 1 + 5, .inl (d10, 656, .inr (.inl fun _ => 0))), (q10 + 1 + 6, .inl (d10, 656, .inr (.inl fun _ => 0))), (q10 + 1 + 7, .inl (d10, 656, .inr (.inl fun _ => 0))), (q10 + 1 + 8, .inl (d10, 656, .inr (.inl fun _ => 0))), (q10 + 1 + 9, .inl (d10, 656, .inr (.inl fun _ => 0))), (q10 + 1 + 10, .inl (d10, 656, .inr (.inl fun _ => 0)))] H := hP
  have hD : va_D A [(h0, .inr (9, [.null, .int 0])), (q10, .inl (c10, 11, .inr (.inr (.inr (.inr fun i => if i < 11 then some (q10 + 1 + i) else none))))), (q10 + 1 + 0, .inl (d10, 656, .inr (.inl fun _ => 0))), (q10 + 1 + 1, .inl (d10, 656, .inr (.inl fun _ => 0))), (q10 + 1 + 2, .inl (d10, 656, .inr (.inl fun _ => 0))), (q10 + 1 + 3, .inl (d10, 656, .inr (.inl fun _ => 0))), (q10 + 1 + 4, .inl (d10, 656, .inr (.inl fun _ => 0))), (q10 + 1 + 5, .inl (d10, 656, .inr (.inl fun _ => 0))), (q10 + 1 + 6, .inl (d10, 656, .inr (.inl fun _ => 0))), (q10 + 1 + 7, .inl (d10, 656, .inr (.inl fun _ => 0))), (q10 + 1 + 8, .inl (d10, 656, .inr (.inl fun _ => 0))), (q10 + 1 + 9, .inl (d10, 656, .inr (.inl fun _ => 0))), (q10 + 1 + 10, .inl (d10, 656, .inr (.inl fun _ => 0)))] := hD
  have hK : va_K D vwCl [(c10, .array .long), (d10, .long)] s := hK
  refine W.widen (k := 12) (n := 7227) (Nat.le_of_ble_eq_true rfl) (Nat.le_of_ble_eq_true rfl) ?_
  refine va_putF (D := D) (cl := vwCl) (ci := 9) (v := .ref q10) (ty := .array (.array .long)) (C := RX9) (T := TX9) (N := 2) (own := RX9) (ref := RX9) (index := 17) hx hb hts (k_in (ci := 9) rfl) tyX9 tyX9_ok nmX9 hown hK hP hD hS 0 rfl rfl 0 (by decide) (hts _ (mx_bg 151 (by decide +kernel) (by decide +kernel))) (fun _ h9 => h9) rfl hin rfl (by decide +kernel) rfl rfl (Nat.le_of_ble_eq_true rfl) (by decide +kernel) (fun H locs hP hD hS => ?_)
  have hP : va_P D vwCl [(h0, .inr (9, [.ref q10, .int 0])), (q10, .inl (c10, 11, .inr (.inr (.inr (.inr fun i => if i < 11 then some (q10 + 1 + i) else none))))), (q10 + 1 + 0, .inl (d10, 656, .inr (.inl fun _ => 0))), (q10 + 1 + 1, .inl (d10, 656, .inr (.inl fun _ => 0))), (q10 + 1 + 2, .inl (d10, 656, .inr (.inl fun _ => 0))), (q10 + 1 + 3, .inl (d10, 656, .inr (.inl fun _ => 0))), (q10 + 1 + 4, .inl (d10, 656, .inr (.inl fun _ => 0))), (q10 + 1 + 5, .inl (d10, 656, .inr (.inl fun _ => 0))), (q10 + 1 + 6, .inl (d10, 656, .inr (.inl fun _ => 0))), (q10 + 1 + 7, .inl (d10, 656, .inr (.inl fun _ => 0))), (q10 + 1 + 8, .inl (d10, 656, .inr (.inl fun _ => 0))), (q10 + 1 + 9, .inl (d10, 656, .inr (.inl fun _ => 0))), (q10 + 1 + 10, .inl (d10, 656, .inr (.inl fun _ => 0)))] H := hP
  have hD : va_D A [(h0, .inr (9, [.ref q10, .int 0])), (q10, .inl (c10, 11, .inr (.inr (.inr (.inr fun i => if i < 11 then some (q10 + 1 + i) else none))))), (q10 + 1 + 0, .inl (d10, 656, .inr (.inl fun _ => 0))), (q10 + 1 + 1, .inl (d10, 656, .inr (.inl fun _ => 0))), (q10 + 1 + 2, .inl (d10, 656, .inr (.inl fun _ => 0))), (q10 + 1 + 3, .inl (d10, 656, .inr (.inl fun _ => 0))), (q10 + 1 + 4, .inl (d10, 656, .inr (.inl fun _ => 0))), (q10 + 1 + 5, .inl (d10, 656, .inr (.inl fun _ => 0))), (q10 + 1 + 6, .inl (d10, 656, .inr (.inl fun _ => 0))), (q10 + 1 + 7, .inl (d10, 656, .inr (.inl fun _ => 0))), (q10 + 1 + 8, .inl (d10, 656, .inr (.inl fun _ => 0))), (q10 + 1 + 9, .inl (d10, 656, .inr (.inl fun _ => 0))), (q10 + 1 + 10, .inl (d10, 656, .inr (.inl fun _ => 0)))] := hD
  refine lv_aload_n (k := 0) hx hb (by decide +kernel) rfl (lv_at hl 0 rfl) ?_
  refine lv_iconst (n := 0) (v := 0) hx hb (by decide +kernel) (by decide) ?_
  refine va_put (D := D) (cl := vwCl) (ci := 9) (v := .int 0) (ty := .boolean) (C := RX9) (T := TX9) (N := 2) (own := RX9) (ref := RX9) (index := 20) hx hb hts (k_in (ci := 9) rfl) tyX9 tyX9_ok nmX9 hown hK hP hD hS 0 rfl rfl 1 (by decide) (hts _ (mx_bg 152 (by decide +kernel) (by decide +kernel))) (fun _ h9 => h9) rfl (by decide +kernel) (by decide) (by decide) (Nat.le_of_ble_eq_true rfl) (by decide +kernel) (fun H locs hP hD hS => ?_)
  have hP : va_P D vwCl [(h0, .inr (9, [.ref q10, .int 0])), (q10, .inl (c10, 11, .inr (.inr (.inr (.inr fun i => if i < 11 then some (q10 + 1 + i) else none))))), (q10 + 1 + 0, .inl (d10, 656, .inr (.inl fun _ => 0))), (q10 + 1 + 1, .inl (d10, 656, .inr (.inl fun _ => 0))), (q10 + 1 + 2, .inl (d10, 656, .inr (.inl fun _ => 0))), (q10 + 1 + 3, .inl (d10, 656, .inr (.inl fun _ => 0))), (q10 + 1 + 4, .inl (d10, 656, .inr (.inl fun _ => 0))), (q10 + 1 + 5, .inl (d10, 656, .inr (.inl fun _ => 0))), (q10 + 1 + 6, .inl (d10, 656, .inr (.inl fun _ => 0))), (q10 + 1 + 7, .inl (d10, 656, .inr (.inl fun _ => 0))), (q10 + 1 + 8, .inl (d10, 656, .inr (.inl fun _ => 0))), (q10 + 1 + 9, .inl (d10, 656, .inr (.inl fun _ => 0))), (q10 + 1 + 10, .inl (d10, 656, .inr (.inl fun _ => 0)))] H := hP
  have hD : va_D A [(h0, .inr (9, [.ref q10, .int 0])), (q10, .inl (c10, 11, .inr (.inr (.inr (.inr fun i => if i < 11 then some (q10 + 1 + i) else none))))), (q10 + 1 + 0, .inl (d10, 656, .inr (.inl fun _ => 0))), (q10 + 1 + 1, .inl (d10, 656, .inr (.inl fun _ => 0))), (q10 + 1 + 2, .inl (d10, 656, .inr (.inl fun _ => 0))), (q10 + 1 + 3, .inl (d10, 656, .inr (.inl fun _ => 0))), (q10 + 1 + 4, .inl (d10, 656, .inr (.inl fun _ => 0))), (q10 + 1 + 5, .inl (d10, 656, .inr (.inl fun _ => 0))), (q10 + 1 + 6, .inl (d10, 656, .inr (.inl fun _ => 0))), (q10 + 1 + 7, .inl (d10, 656, .inr (.inl fun _ => 0))), (q10 + 1 + 8, .inl (d10, 656, .inr (.inl fun _ => 0))), (q10 + 1 + 9, .inl (d10, 656, .inr (.inl fun _ => 0))), (q10 + 1 + 10, .inl (d10, 656, .inr (.inl fun _ => 0)))] := hD
  exact W.vret hx hb hr (fun t ht hW => ⟨⟨(), rfl, trivial, fun i => ([q10] : List Nat).getD i 0, fun i => ([c10, d10] : List Nat).getD i 0, by rw [ht]; exact hP, va_K.moved hW.alike hK, hD⟩, hS.F ht⟩) hS.2.2 (by decide +kernel)
def kW_X5 (h : Nat) (as : Nat → Nat) (cs : Nat → ClassId) : va_W := [(h, .inr (5, [.ref (as 0), .ref (as 1)])), (as 0, .inl (cs 0, 16, .inr (.inr (.inr (.inl fun _ => 0))))), (as 1, .inl (cs 1, 16, .inr (.inr (.inr (.inl fun _ => 0)))))]
def kT_X5 (cs : Nat → ClassId) : List (ClassId × FieldType) := [(cs 0, .double), (cs 1, .double)]
set_option maxRecDepth 100000 in
set_option maxHeartbeats 4000000 in
theorem k_X5 (l : Launch) (D : va_G) (h0 sz : Nat) : Met l yX5_init (k_ws yX5_init cX5_init) ({ frames := 1, cells := 2, slots := 32, locals := 12 }) (k_Pc D h0 sz 5 [.null, .null]) (k_Qc D (va_A [(h0, .inr (5, [.null, .null]))] sz) (kW_X5 h0) kT_X5) 2 32 (va_A [(h0, .inr (5, [.null, .null]))] sz) := by
  refine Met.ofW (cc := cX5_init) (maxL := 1) (ret := none) (by decide +kernel) rfl ?_
  intro p e s m args below meth c s₁ B hml hv
  obtain ⟨rfl, hsz, hP, hK, hD0, hO1, hO2⟩ := hv
  have hx := B.exec
  have hb := B.bytes
  have hr := B.returns
  have hts0 := atoms_spec (ws := k_ws yX5_init cX5_init) B.pre
  have hts := fun w hw => hts0 w (List.mem_cons_of_mem _ hw)
  have hown : s.vm.findClass RX5 = some m.cls := findClass_of_methodNamed B.named
  have hlocks := B.notSynchronized
  have hin : meth.name = "<init>" := (name_of_methodNamed B.named B.method).1
  subst hsz
  have hD := hD0.self (sz := s.heap.size)
  generalize hAe : va_A [(h0, .inr (5, [.null, .null]))] s.heap.size = A at hD ⊢
  have hA : ∀ q : Nat, s.heap.size ≤ q → A q := fun q h => by rw [← hAe]; exact Or.inr h
  have hS : va_S A s.heap s.heap [] := va_S.rf
  have hP : va_P D vwCl [(h0, .inr (5, [.null, .null]))] s.heap := hP
  have hl := lv_entry ([.ref h0]) (n := 1) (Nat.le_of_ble_eq_true rfl)
  rw [lg_entry_eq]
  generalize (lg_sl ([.ref h0]) ++ List.replicate (1 - (lg_sl ([.ref h0])).length) Slot.unset).toArray = ls at hl ⊢
  have hl : lv_has ls 1 [(0, .ref h0)] := hl
  refine lv_aload_n (k := 0) hx hb (by decide +kernel) rfl (lv_at hl 0 rfl) ?_
  refine W.objInit (own := RX5) (idx := 5) hx hb hown (hts _ (mx_bg 164 (by decide +kernel) (by decide +kernel))) (hts _ k_w1) (hts _ k_w2) rfl (by rw [hml]; exact hl.1) rfl (show decode cX5_init 1 = .ok (.invokespecial 5, 3) from by decide +kernel) (Nat.le_of_ble_eq_true rfl) (Nat.le_of_ble_eq_true rfl) ?_
  refine W.eq (g2 := F0 m 4 ls []) rfl ?_
  refine lv_aload_n (k := 0) hx hb (by decide +kernel) rfl (lv_at hl 0 rfl) ?_
  refine lv_bipush (n := 16) (v := 16) hx hb (by decide +kernel) (by decide) ?_
  refine va_newa (atype := .double) (ty := .double) (n := 16) (N' := 16) (a0 := (16, .inr (.inr (.inr (.inl fun _ => 0))))) hx hb (hts _ (mx_bg 172 (by decide +kernel) (by decide +kernel))) rfl hK hP hD hS hA (fun cA => rfl) (by decide) (by decide) (by decide) (Nat.le_of_ble_eq_true rfl) (Nat.le_of_ble_eq_true rfl) (by decide +kernel) (fun q7 c7 H hK hP hD hS => ?_)
  have hP : va_P D vwCl [(h0, .inr (5, [.null, .null])), (q7, .inl (c7, 16, .inr (.inr (.inr (.inl fun _ => 0)))))] H := hP
  have hD : va_D A [(h0, .inr (5, [.null, .null])), (q7, .inl (c7, 16, .inr (.inr (.inr (.inl fun _ => 0)))))] := hD
  have hK : va_K D vwCl [(c7, .double)] s := hK
  refine W.widen (k := 1) (n := 16) (Nat.le_of_ble_eq_true rfl) (Nat.le_of_ble_eq_true rfl) ?_
  refine va_putF (D := D) (cl := vwCl) (ci := 5) (v := .ref q7) (ty := .array .double) (C := RX5) (T := TX5) (N := 2) (own := RX5) (ref := RX5) (index := 13) hx hb hts (k_in (ci := 5) rfl) tyX5 tyX5_ok nmX5 hown hK hP hD hS 0 rfl rfl 0 (by decide) (hts _ (mx_bg 165 (by decide +kernel) (by decide +kernel))) (fun _ h9 => h9) rfl hin rfl (by decide +kernel) rfl rfl (Nat.le_of_ble_eq_true rfl) (by decide +kernel) (fun H locs hP hD hS => ?_)
  have hP : va_P D vwCl [(h0, .inr (5, [.ref q7, .null])), (q7, .inl (c7, 16, .inr (.inr (.inr (.inl fun _ => 0)))))] H := hP
  have hD : va_D A [(h0, .inr (5, [.ref q7, .null])), (q7, .inl (c7, 16, .inr (.inr (.inr (.inl fun _ => 0)))))] := hD
  refine lv_aload_n (k := 0) hx hb (by decide +kernel) rfl (lv_at hl 0 rfl) ?_
  refine lv_bipush (n := 16) (v := 16) hx hb (by decide +kernel) (by decide) ?_
  refine va_newa (atype := .double) (ty := .double) (n := 16) (N' := 16) (a0 := (16, .inr (.inr (.inr (.inl fun _ => 0))))) hx hb (hts _ (mx_bg 172 (by decide +kernel) (by decide +kernel))) rfl hK hP hD hS hA (fun cA => rfl) (by decide) (by decide) (by decide) (Nat.le_of_ble_eq_true rfl) (Nat.le_of_ble_eq_true rfl) (by decide +kernel) (fun q15 c15 H hK hP hD hS => ?_)
  have hP : va_P D vwCl [(h0, .inr (5, [.ref q7, .null])), (q7, .inl (c7, 16, .inr (.inr (.inr (.inl fun _ => 0))))), (q15, .inl (c15, 16, .inr (.inr (.inr (.inl fun _ => 0)))))] H := hP
  have hD : va_D A [(h0, .inr (5, [.ref q7, .null])), (q7, .inl (c7, 16, .inr (.inr (.inr (.inl fun _ => 0))))), (q15, .inl (c15, 16, .inr (.inr (.inr (.inl fun _ => 0)))))] := hD
  have hK : va_K D vwCl [(c7, .double), (c15, .double)] s := hK
  refine W.widen (k := 2) (n := 32) (Nat.le_of_ble_eq_true rfl) (Nat.le_of_ble_eq_true rfl) ?_
  refine va_putF (D := D) (cl := vwCl) (ci := 5) (v := .ref q15) (ty := .array .double) (C := RX5) (T := TX5) (N := 2) (own := RX5) (ref := RX5) (index := 17) hx hb hts (k_in (ci := 5) rfl) tyX5 tyX5_ok nmX5 hown hK hP hD hS 0 rfl rfl 1 (by decide) (hts _ (mx_bg 166 (by decide +kernel) (by decide +kernel))) (fun _ h9 => h9) rfl hin rfl (by decide +kernel) rfl rfl (Nat.le_of_ble_eq_true rfl) (by decide +kernel) (fun H locs hP hD hS => ?_)
  have hP : va_P D vwCl [(h0, .inr (5, [.ref q7, .ref q15])), (q7, .inl (c7, 16, .inr (.inr (.inr (.inl fun _ => 0))))), (q15, .inl (c15, 16, .inr (.inr (.inr (.inl fun _ => 0)))))] H := hP
  have hD : va_D A [(h0, .inr (5, [.ref q7, .ref q15])), (q7, .inl (c7, 16, .inr (.inr (.inr (.inl fun _ => 0))))), (q15, .inl (c15, 16, .inr (.inr (.inr (.inl fun _ => 0)))))] := hD
  exact W.vret hx hb hr (fun t ht hW => ⟨⟨(), rfl, trivial, fun i => ([q7, q15] : List Nat).getD i 0, fun i => ([c7, c15] : List Nat).getD i 0, by rw [ht]; exact hP, va_K.moved hW.alike hK, hD⟩, hS.F ht⟩) hS.2.2 (by decide +kernel)
def kW_X2 (h : Nat) (as : Nat → Nat) (cs : Nat → ClassId) : va_W := [(h, .inr (2, [.ref (as 0), .ref (as 1), .ref (as 2)])), (as 0, .inl (cs 0, 5, .inl fun _ => 0)), (as 1, .inl (cs 1, 5, .inr (.inr (.inr (.inr fun i => if i < 5 then some (as 1 + 1 + i) else none))))), (as 1 + 1 + 0, .inl (cs 2, 16, .inl fun _ => 0)), (as 1 + 1 + 1, .inl (cs 2, 16, .inl fun _ => 0)), (as 1 + 1 + 2, .inl (cs 2, 16, .inl fun _ => 0)), (as 1 + 1 + 3, .inl (cs 2, 16, .inl fun _ => 0)), (as 1 + 1 + 4, .inl (cs 2, 16, .inl fun _ => 0)), (as 2, .inl (cs 3, 16, .inl fun _ => 0))]
def kT_X2 (cs : Nat → ClassId) : List (ClassId × FieldType) := [(cs 0, .int), (cs 1, .array .int), (cs 2, .int), (cs 3, .int)]
set_option maxRecDepth 100000 in
set_option maxHeartbeats 4000000 in
theorem k_X2 (l : Launch) (D : va_G) (h0 sz : Nat) : Met l yX2_init (k_ws yX2_init cX2_init) ({ frames := 1, cells := 8, slots := 106, locals := 12 }) (k_Pc D h0 sz 2 [.null, .null, .null]) (k_Qc D (va_A [(h0, .inr (2, [.null, .null, .null]))] sz) (kW_X2 h0) kT_X2) 8 106 (va_A [(h0, .inr (2, [.null, .null, .null]))] sz) := by
  refine Met.ofW (cc := cX2_init) (maxL := 1) (ret := none) (by decide +kernel) rfl ?_
  intro p e s m args below meth c s₁ B hml hv
  obtain ⟨rfl, hsz, hP, hK, hD0, hO1, hO2⟩ := hv
  have hx := B.exec
  have hb := B.bytes
  have hr := B.returns
  have hts0 := atoms_spec (ws := k_ws yX2_init cX2_init) B.pre
  have hts := fun w hw => hts0 w (List.mem_cons_of_mem _ hw)
  have hown : s.vm.findClass RX2 = some m.cls := findClass_of_methodNamed B.named
  have hlocks := B.notSynchronized
  have hin : meth.name = "<init>" := (name_of_methodNamed B.named B.method).1
  subst hsz
  have hD := hD0.self (sz := s.heap.size)
  generalize hAe : va_A [(h0, .inr (2, [.null, .null, .null]))] s.heap.size = A at hD ⊢
  have hA : ∀ q : Nat, s.heap.size ≤ q → A q := fun q h => by rw [← hAe]; exact Or.inr h
  have hS : va_S A s.heap s.heap [] := va_S.rf
  have hP : va_P D vwCl [(h0, .inr (2, [.null, .null, .null]))] s.heap := hP
  have hl := lv_entry ([.ref h0]) (n := 1) (Nat.le_of_ble_eq_true rfl)
  rw [lg_entry_eq]
  generalize (lg_sl ([.ref h0]) ++ List.replicate (1 - (lg_sl ([.ref h0])).length) Slot.unset).toArray = ls at hl ⊢
  have hl : lv_has ls 1 [(0, .ref h0)] := hl
  refine lv_aload_n (k := 0) hx hb (by decide +kernel) rfl (lv_at hl 0 rfl) ?_
  refine W.objInit (own := RX2) (idx := 3) hx hb hown (hts _ (mx_bg 178 (by decide +kernel) (by decide +kernel))) (hts _ k_w1) (hts _ k_w2) rfl (by rw [hml]; exact hl.1) rfl (show decode cX2_init 1 = .ok (.invokespecial 3, 3) from by decide +kernel) (Nat.le_of_ble_eq_true rfl) (Nat.le_of_ble_eq_true rfl) ?_
  refine W.eq (g2 := F0 m 4 ls []) rfl ?_
  refine lv_aload_n (k := 0) hx hb (by decide +kernel) rfl (lv_at hl 0 rfl) ?_
  refine lv_iconst (n := 5) (v := 5) hx hb (by decide +kernel) (by decide) ?_
  refine va_newa (atype := .int) (ty := .int) (n := 5) (N' := 5) (a0 := (5, .inl fun _ => 0)) hx hb (hts _ (mx_bg 80 (by decide +kernel) (by decide +kernel))) rfl hK hP hD hS hA (fun cA => rfl) (by decide) (by decide) (by decide) (Nat.le_of_ble_eq_true rfl) (Nat.le_of_ble_eq_true rfl) (by decide +kernel) (fun q6 c6 H hK hP hD hS => ?_)
  have hP : va_P D vwCl [(h0, .inr (2, [.null, .null, .null])), (q6, .inl (c6, 5, .inl fun _ => 0))] H := hP
  have hD : va_D A [(h0, .inr (2, [.null, .null, .null])), (q6, .inl (c6, 5, .inl fun _ => 0))] := hD
  have hK : va_K D vwCl [(c6, .int)] s := hK
  refine W.widen (k := 1) (n := 5) (Nat.le_of_ble_eq_true rfl) (Nat.le_of_ble_eq_true rfl) ?_
  refine va_putF (D := D) (cl := vwCl) (ci := 2) (v := .ref q6) (ty := .array .int) (C := RX2) (T := TX2) (N := 3) (own := RX2) (ref := RX2) (index := 11) hx hb hts (k_in (ci := 2) rfl) tyX2 tyX2_ok nmX2 hown hK hP hD hS 0 rfl rfl 0 (by decide) (hts _ (mx_bg 180 (by decide +kernel) (by decide +kernel))) (fun _ h9 => h9) rfl hin rfl (by decide +kernel) rfl rfl (Nat.le_of_ble_eq_true rfl) (by decide +kernel) (fun H locs hP hD hS => ?_)
  have hP : va_P D vwCl [(h0, .inr (2, [.ref q6, .null, .null])), (q6, .inl (c6, 5, .inl fun _ => 0))] H := hP
  have hD : va_D A [(h0, .inr (2, [.ref q6, .null, .null])), (q6, .inl (c6, 5, .inl fun _ => 0))] := hD
  refine lv_aload_n (k := 0) hx hb (by decide +kernel) rfl (lv_at hl 0 rfl) ?_
  refine lv_iconst (n := 5) (v := 5) hx hb (by decide +kernel) (by decide) ?_
  refine lv_bipush (n := 16) (v := 16) hx hb (by decide +kernel) (by decide) ?_
  refine mm_multi (own := RX2) (index := 19) (ty := .int) (n := 5) (k := 16) (N := 5) (M := 16) (a0 := (16, .inl fun _ => 0)) hx hb hown (hts _ (mx_bg 179 (by decide +kernel) (by decide +kernel))) hO1 (hts _ (mx_bg 80 (by decide +kernel) (by decide +kernel))) hK hP hD hS hA rfl (by decide) (by decide) (by decide) (by decide) (by decide) (by decide) (by decide) rfl (Or.inl rfl) (fun cB => rfl) (Nat.le_of_ble_eq_true rfl) (Nat.le_of_ble_eq_true rfl) (by decide +kernel) (fun q15 c15 d15 H hK hP hD hS => ?_)
  have hP : va_P D vwCl [(h0, .inr (2, [.ref q6, .null, .null])), (q6, .inl (c6, 5, .inl fun _ => 0)), (q15, .inl (c15, 5, .inr (.inr (.inr (.inr fun i => if i < 5 then some (q15 + 1 + i) else none))))), (q15 + 1 + 0, .inl (d15, 16, .inl fun _ => 0)), (q15 + 1 + 1, .inl (d15, 16, .inl fun _ => 0)), (q15 + 1 + 2, .inl (d15, 16, .inl fun _ => 0)), (q15 + 1 + 3, .inl (d15, 16, .inl fun _ => 0)), (q15 + 1 + 4, .inl (d15, 16, .inl fun _ => 0))] H := hP
  have hD : va_D A [(h0, .inr (2, [.ref q6, .null, .null])), (q6, .inl (c6, 5, .inl fun _ => 0)), (q15, .inl (c15, 5, .inr (.inr (.inr (.inr fun i => if i < 5 then some (q15 + 1 + i) else none))))), (q15 + 1 + 0, .inl (d15, 16, .inl fun _ => 0)), (q15 + 1 + 1, .inl (d15, 16, .inl fun _ => 0)), (q15 + 1 + 2, .inl (d15, 16, .inl fun _ => 0)), (q15 + 1 + 3, .inl (d15, 16, .inl fun _ => 0)), (q15 + 1 + 4, .inl (d15, 16, .inl fun _ => 0))] := hD
  have hK : va_K D vwCl [(c6, .int), (c15, .array .int), (d15, .int)] s := hK
  refine W.widen (k := 7) (n := 90) (Nat.le_of_ble_eq_true rfl) (Nat.le_of_ble_eq_true rfl) ?_
  refine va_putF (D := D) (cl := vwCl) (ci := 2) (v := .ref q15) (ty := .array (.array .int)) (C := RX2) (T := TX2) (N := 3) (own := RX2) (ref := RX2) (index := 21) hx hb hts (k_in (ci := 2) rfl) tyX2 tyX2_ok nmX2 hown hK hP hD hS 0 rfl rfl 1 (by decide) (hts _ (mx_bg 181 (by decide +kernel) (by decide +kernel))) (fun _ h9 => h9) rfl hin rfl (by decide +kernel) rfl rfl (Nat.le_of_ble_eq_true rfl) (by decide +kernel) (fun H locs hP hD hS => ?_)
  have hP : va_P D vwCl [(h0, .inr (2, [.ref q6, .ref q15, .null])), (q6, .inl (c6, 5, .inl fun _ => 0)), (q15, .inl (c15, 5, .inr (.inr (.inr (.inr fun i => if i < 5 then some (q15 + 1 + i) else none))))), (q15 + 1 + 0, .inl (d15, 16, .inl fun _ => 0)), (q15 + 1 + 1, .inl (d15, 16, .inl fun _ => 0)), (q15 + 1 + 2, .inl (d15, 16, .inl fun _ => 0)), (q15 + 1 + 3, .inl (d15, 16, .inl fun _ => 0)), (q15 + 1 + 4, .inl (d15, 16, .inl fun _ => 0))] H := hP
  have hD : va_D A [(h0, .inr (2, [.ref q6, .ref q15, .null])), (q6, .inl (c6, 5, .inl fun _ => 0)), (q15, .inl (c15, 5, .inr (.inr (.inr (.inr fun i => if i < 5 then some (q15 + 1 + i) else none))))), (q15 + 1 + 0, .inl (d15, 16, .inl fun _ => 0)), (q15 + 1 + 1, .inl (d15, 16, .inl fun _ => 0)), (q15 + 1 + 2, .inl (d15, 16, .inl fun _ => 0)), (q15 + 1 + 3, .inl (d15, 16, .inl fun _ => 0)), (q15 + 1 + 4, .inl (d15, 16, .inl fun _ => 0))] := hD
  refine lv_aload_n (k := 0) hx hb (by decide +kernel) rfl (lv_at hl 0 rfl) ?_
  refine lv_bipush (n := 16) (v := 16) hx hb (by decide +kernel) (by decide) ?_
  refine va_newa (atype := .int) (ty := .int) (n := 16) (N' := 16) (a0 := (16, .inl fun _ => 0)) hx hb (hts _ (mx_bg 80 (by decide +kernel) (by decide +kernel))) rfl hK hP hD hS hA (fun cA => rfl) (by decide) (by decide) (by decide) (Nat.le_of_ble_eq_true rfl) (Nat.le_of_ble_eq_true rfl) (by decide +kernel) (fun q25 c25 H hK hP hD hS => ?_)
  have hP : va_P D vwCl [(h0, .inr (2, [.ref q6, .ref q15, .null])), (q6, .inl (c6, 5, .inl fun _ => 0)), (q15, .inl (c15, 5, .inr (.inr (.inr (.inr fun i => if i < 5 then some (q15 + 1 + i) else none))))), (q15 + 1 + 0, .inl (d15, 16, .inl fun _ => 0)), (q15 + 1 + 1, .inl (d15, 16, .inl fun _ => 0)), (q15 + 1 + 2, .inl (d15, 16, .inl fun _ => 0)), (q15 + 1 + 3, .inl (d15, 16, .inl fun _ => 0)), (q15 + 1 + 4, .inl (d15, 16, .inl fun _ => 0)), (q25, .inl (c25, 16, .inl fun _ => 0))] H := hP
  have hD : va_D A [(h0, .inr (2, [.ref q6, .ref q15, .null])), (q6, .inl (c6, 5, .inl fun _ => 0)), (q15, .inl (c15, 5, .inr (.inr (.inr (.inr fun i => if i < 5 then some (q15 + 1 + i) else none))))), (q15 + 1 + 0, .inl (d15, 16, .inl fun _ => 0)), (q15 + 1 + 1, .inl (d15, 16, .inl fun _ => 0)), (q15 + 1 + 2, .inl (d15, 16, .inl fun _ => 0)), (q15 + 1 + 3, .inl (d15, 16, .inl fun _ => 0)), (q15 + 1 + 4, .inl (d15, 16, .inl fun _ => 0)), (q25, .inl (c25, 16, .inl fun _ => 0))] := hD
  have hK : va_K D vwCl [(c6, .int), (c15, .array .int), (d15, .int), (c25, .int)] s := hK
  refine W.widen (k := 8) (n := 106) (Nat.le_of_ble_eq_true rfl) (Nat.le_of_ble_eq_true rfl) ?_
  refine va_putF (D := D) (cl := vwCl) (ci := 2) (v := .ref q25) (ty := .array .int) (C := RX2) (T := TX2) (N := 3) (own := RX2) (ref := RX2) (index := 24) hx hb hts (k_in (ci := 2) rfl) tyX2 tyX2_ok nmX2 hown hK hP hD hS 0 rfl rfl 2 (by decide) (hts _ (mx_bg 182 (by decide +kernel) (by decide +kernel))) (fun _ h9 => h9) rfl hin rfl (by decide +kernel) rfl rfl (Nat.le_of_ble_eq_true rfl) (by decide +kernel) (fun H locs hP hD hS => ?_)
  have hP : va_P D vwCl [(h0, .inr (2, [.ref q6, .ref q15, .ref q25])), (q6, .inl (c6, 5, .inl fun _ => 0)), (q15, .inl (c15, 5, .inr (.inr (.inr (.inr fun i => if i < 5 then some (q15 + 1 + i) else none))))), (q15 + 1 + 0, .inl (d15, 16, .inl fun _ => 0)), (q15 + 1 + 1, .inl (d15, 16, .inl fun _ => 0)), (q15 + 1 + 2, .inl (d15, 16, .inl fun _ => 0)), (q15 + 1 + 3, .inl (d15, 16, .inl fun _ => 0)), (q15 + 1 + 4, .inl (d15, 16, .inl fun _ => 0)), (q25, .inl (c25, 16, .inl fun _ => 0))] H := hP
  have hD : va_D A [(h0, .inr (2, [.ref q6, .ref q15, .ref q25])), (q6, .inl (c6, 5, .inl fun _ => 0)), (q15, .inl (c15, 5, .inr (.inr (.inr (.inr fun i => if i < 5 then some (q15 + 1 + i) else none))))), (q15 + 1 + 0, .inl (d15, 16, .inl fun _ => 0)), (q15 + 1 + 1, .inl (d15, 16, .inl fun _ => 0)), (q15 + 1 + 2, .inl (d15, 16, .inl fun _ => 0)), (q15 + 1 + 3, .inl (d15, 16, .inl fun _ => 0)), (q15 + 1 + 4, .inl (d15, 16, .inl fun _ => 0)), (q25, .inl (c25, 16, .inl fun _ => 0))] := hD
  exact W.vret hx hb hr (fun t ht hW => ⟨⟨(), rfl, trivial, fun i => ([q6, q15, q25] : List Nat).getD i 0, fun i => ([c6, c15, d15, c25] : List Nat).getD i 0, by rw [ht]; exact hP, va_K.moved hW.alike hK, hD⟩, hS.F ht⟩) hS.2.2 (by decide +kernel)
def kW_X3 (h : Nat) (as : Nat → Nat) (cs : Nat → ClassId) : va_W := [(h, .inr (3, [.ref (as 0), .ref (as 1), .ref (as 2), .int 0, .int 0, .int 0, .int 0])), (as 0, .inl (cs 0, 256, .inl fun _ => 0)), (as 1, .inl (cs 1, 64, .inl fun _ => 0)), (as 2, .inl (cs 2, 16, .inl fun _ => 0))]
def kT_X3 (cs : Nat → ClassId) : List (ClassId × FieldType) := [(cs 0, .int), (cs 1, .int), (cs 2, .int)]
set_option maxRecDepth 100000 in
set_option maxHeartbeats 4000000 in
theorem k_X3 (l : Launch) (D : va_G) (h0 sz : Nat) : Met l yX3_init (k_ws yX3_init cX3_init) ({ frames := 1, cells := 3, slots := 336, locals := 12 }) (k_Pc D h0 sz 3 [.null, .null, .null, .int 0, .int 0, .int 0, .int 0]) (k_Qc D (va_A [(h0, .inr (3, [.null, .null, .null, .int 0, .int 0, .int 0, .int 0]))] sz) (kW_X3 h0) kT_X3) 3 336 (va_A [(h0, .inr (3, [.null, .null, .null, .int 0, .int 0, .int 0, .int 0]))] sz) := by
  refine Met.ofW (cc := cX3_init) (maxL := 1) (ret := none) (by decide +kernel) rfl ?_
  intro p e s m args below meth c s₁ B hml hv
  obtain ⟨rfl, hsz, hP, hK, hD0, hO1, hO2⟩ := hv
  have hx := B.exec
  have hb := B.bytes
  have hr := B.returns
  have hts0 := atoms_spec (ws := k_ws yX3_init cX3_init) B.pre
  have hts := fun w hw => hts0 w (List.mem_cons_of_mem _ hw)
  have hown : s.vm.findClass RX3 = some m.cls := findClass_of_methodNamed B.named
  have hlocks := B.notSynchronized
  have hin : meth.name = "<init>" := (name_of_methodNamed B.named B.method).1
  subst hsz
  have hD := hD0.self (sz := s.heap.size)
  generalize hAe : va_A [(h0, .inr (3, [.null, .null, .null, .int 0, .int 0, .int 0, .int 0]))] s.heap.size = A at hD ⊢
  have hA : ∀ q : Nat, s.heap.size ≤ q → A q := fun q h => by rw [← hAe]; exact Or.inr h
  have hS : va_S A s.heap s.heap [] := va_S.rf
  have hP : va_P D vwCl [(h0, .inr (3, [.null, .null, .null, .int 0, .int 0, .int 0, .int 0]))] s.heap := hP
  have hl := lv_entry ([.ref h0]) (n := 1) (Nat.le_of_ble_eq_true rfl)
  rw [lg_entry_eq]
  generalize (lg_sl ([.ref h0]) ++ List.replicate (1 - (lg_sl ([.ref h0])).length) Slot.unset).toArray = ls at hl ⊢
  have hl : lv_has ls 1 [(0, .ref h0)] := hl
  refine lv_aload_n (k := 0) hx hb (by decide +kernel) rfl (lv_at hl 0 rfl) ?_
  refine W.objInit (own := RX3) (idx := 5) hx hb hown (hts _ (mx_bg 195 (by decide +kernel) (by decide +kernel))) (hts _ k_w1) (hts _ k_w2) rfl (by rw [hml]; exact hl.1) rfl (show decode cX3_init 1 = .ok (.invokespecial 5, 3) from by decide +kernel) (Nat.le_of_ble_eq_true rfl) (Nat.le_of_ble_eq_true rfl) ?_
  refine W.eq (g2 := F0 m 4 ls []) rfl ?_
  refine lv_aload_n (k := 0) hx hb (by decide +kernel) rfl (lv_at hl 0 rfl) ?_
  refine lv_sipush (n := 256) (v := 256) hx hb (by decide +kernel) (by decide) ?_
  refine va_newa (atype := .int) (ty := .int) (n := 256) (N' := 256) (a0 := (256, .inl fun _ => 0)) hx hb (hts _ (mx_bg 80 (by decide +kernel) (by decide +kernel))) rfl hK hP hD hS hA (fun cA => rfl) (by decide) (by decide) (by decide) (Nat.le_of_ble_eq_true rfl) (Nat.le_of_ble_eq_true rfl) (by decide +kernel) (fun q8 c8 H hK hP hD hS => ?_)
  have hP : va_P D vwCl [(h0, .inr (3, [.null, .null, .null, .int 0, .int 0, .int 0, .int 0])), (q8, .inl (c8, 256, .inl fun _ => 0))] H := hP
  have hD : va_D A [(h0, .inr (3, [.null, .null, .null, .int 0, .int 0, .int 0, .int 0])), (q8, .inl (c8, 256, .inl fun _ => 0))] := hD
  have hK : va_K D vwCl [(c8, .int)] s := hK
  refine W.widen (k := 1) (n := 256) (Nat.le_of_ble_eq_true rfl) (Nat.le_of_ble_eq_true rfl) ?_
  refine va_putF (D := D) (cl := vwCl) (ci := 3) (v := .ref q8) (ty := .array .int) (C := RX3) (T := TX3) (N := 7) (own := RX3) (ref := RX3) (index := 13) hx hb hts (k_in (ci := 3) rfl) tyX3 tyX3_ok nmX3 hown hK hP hD hS 0 rfl rfl 0 (by decide) (hts _ (mx_bg 196 (by decide +kernel) (by decide +kernel))) (fun _ h9 => h9) rfl hin rfl (by decide +kernel) rfl rfl (Nat.le_of_ble_eq_true rfl) (by decide +kernel) (fun H locs hP hD hS => ?_)
  have hP : va_P D vwCl [(h0, .inr (3, [.ref q8, .null, .null, .int 0, .int 0, .int 0, .int 0])), (q8, .inl (c8, 256, .inl fun _ => 0))] H := hP
  have hD : va_D A [(h0, .inr (3, [.ref q8, .null, .null, .int 0, .int 0, .int 0, .int 0])), (q8, .inl (c8, 256, .inl fun _ => 0))] := hD
  refine lv_aload_n (k := 0) hx hb (by decide +kernel) rfl (lv_at hl 0 rfl) ?_
  refine lv_bipush (n := 64) (v := 64) hx hb (by decide +kernel) (by decide) ?_
  refine va_newa (atype := .int) (ty := .int) (n := 64) (N' := 64) (a0 := (64, .inl fun _ => 0)) hx hb (hts _ (mx_bg 80 (by decide +kernel) (by decide +kernel))) rfl hK hP hD hS hA (fun cA => rfl) (by decide) (by decide) (by decide) (Nat.le_of_ble_eq_true rfl) (Nat.le_of_ble_eq_true rfl) (by decide +kernel) (fun q16 c16 H hK hP hD hS => ?_)
  have hP : va_P D vwCl [(h0, .inr (3, [.ref q8, .null, .null, .int 0, .int 0, .int 0, .int 0])), (q8, .inl (c8, 256, .inl fun _ => 0)), (q16, .inl (c16, 64, .inl fun _ => 0))] H := hP
  have hD : va_D A [(h0, .inr (3, [.ref q8, .null, .null, .int 0, .int 0, .int 0, .int 0])), (q8, .inl (c8, 256, .inl fun _ => 0)), (q16, .inl (c16, 64, .inl fun _ => 0))] := hD
  have hK : va_K D vwCl [(c8, .int), (c16, .int)] s := hK
  refine W.widen (k := 2) (n := 320) (Nat.le_of_ble_eq_true rfl) (Nat.le_of_ble_eq_true rfl) ?_
  refine va_putF (D := D) (cl := vwCl) (ci := 3) (v := .ref q16) (ty := .array .int) (C := RX3) (T := TX3) (N := 7) (own := RX3) (ref := RX3) (index := 17) hx hb hts (k_in (ci := 3) rfl) tyX3 tyX3_ok nmX3 hown hK hP hD hS 0 rfl rfl 1 (by decide) (hts _ (mx_bg 197 (by decide +kernel) (by decide +kernel))) (fun _ h9 => h9) rfl hin rfl (by decide +kernel) rfl rfl (Nat.le_of_ble_eq_true rfl) (by decide +kernel) (fun H locs hP hD hS => ?_)
  have hP : va_P D vwCl [(h0, .inr (3, [.ref q8, .ref q16, .null, .int 0, .int 0, .int 0, .int 0])), (q8, .inl (c8, 256, .inl fun _ => 0)), (q16, .inl (c16, 64, .inl fun _ => 0))] H := hP
  have hD : va_D A [(h0, .inr (3, [.ref q8, .ref q16, .null, .int 0, .int 0, .int 0, .int 0])), (q8, .inl (c8, 256, .inl fun _ => 0)), (q16, .inl (c16, 64, .inl fun _ => 0))] := hD
  refine lv_aload_n (k := 0) hx hb (by decide +kernel) rfl (lv_at hl 0 rfl) ?_
  refine lv_bipush (n := 16) (v := 16) hx hb (by decide +kernel) (by decide) ?_
  refine va_newa (atype := .int) (ty := .int) (n := 16) (N' := 16) (a0 := (16, .inl fun _ => 0)) hx hb (hts _ (mx_bg 80 (by decide +kernel) (by decide +kernel))) rfl hK hP hD hS hA (fun cA => rfl) (by decide) (by decide) (by decide) (Nat.le_of_ble_eq_true rfl) (Nat.le_of_ble_eq_true rfl) (by decide +kernel) (fun q24 c24 H hK hP hD hS => ?_)
  have hP : va_P D vwCl [(h0, .inr (3, [.ref q8, .ref q16, .null, .int 0, .int 0, .int 0, .int 0])), (q8, .inl (c8, 256, .inl fun _ => 0)), (q16, .inl (c16, 64, .inl fun _ => 0)), (q24, .inl (c24, 16, .inl fun _ => 0))] H := hP
  have hD : va_D A [(h0, .inr (3, [.ref q8, .ref q16, .null, .int 0, .int 0, .int 0, .int 0])), (q8, .inl (c8, 256, .inl fun _ => 0)), (q16, .inl (c16, 64, .inl fun _ => 0)), (q24, .inl (c24, 16, .inl fun _ => 0))] := hD
  have hK : va_K D vwCl [(c8, .int), (c16, .int), (c24, .int)] s := hK
  refine W.widen (k := 3) (n := 336) (Nat.le_of_ble_eq_true rfl) (Nat.le_of_ble_eq_true rfl) ?_
  refine va_putF (D := D) (cl := vwCl) (ci := 3) (v := .ref q24) (ty := .array .int) (C := RX3) (T := TX3) (N := 7) (own := RX3) (ref := RX3) (index := 20) hx hb hts (k_in (ci := 3) rfl) tyX3 tyX3_ok nmX3 hown hK hP hD hS 0 rfl rfl 2 (by decide) (hts _ (mx_bg 198 (by decide +kernel) (by decide +kernel))) (fun _ h9 => h9) rfl hin rfl (by decide +kernel) rfl rfl (Nat.le_of_ble_eq_true rfl) (by decide +kernel) (fun H locs hP hD hS => ?_)
  have hP : va_P D vwCl [(h0, .inr (3, [.ref q8, .ref q16, .ref q24, .int 0, .int 0, .int 0, .int 0])), (q8, .inl (c8, 256, .inl fun _ => 0)), (q16, .inl (c16, 64, .inl fun _ => 0)), (q24, .inl (c24, 16, .inl fun _ => 0))] H := hP
  have hD : va_D A [(h0, .inr (3, [.ref q8, .ref q16, .ref q24, .int 0, .int 0, .int 0, .int 0])), (q8, .inl (c8, 256, .inl fun _ => 0)), (q16, .inl (c16, 64, .inl fun _ => 0)), (q24, .inl (c24, 16, .inl fun _ => 0))] := hD
  refine lv_aload_n (k := 0) hx hb (by decide +kernel) rfl (lv_at hl 0 rfl) ?_
  refine lv_iconst (n := 0) (v := 0) hx hb (by decide +kernel) (by decide) ?_
  refine va_put (D := D) (cl := vwCl) (ci := 3) (v := .int 0) (ty := .boolean) (C := RX3) (T := TX3) (N := 7) (own := RX3) (ref := RX3) (index := 23) hx hb hts (k_in (ci := 3) rfl) tyX3 tyX3_ok nmX3 hown hK hP hD hS 0 rfl rfl 3 (by decide) (hts _ (mx_bg 199 (by decide +kernel) (by decide +kernel))) (fun _ h9 => h9) rfl (by decide +kernel) (by decide) (by decide) (Nat.le_of_ble_eq_true rfl) (by decide +kernel) (fun H locs hP hD hS => ?_)
  have hP : va_P D vwCl [(h0, .inr (3, [.ref q8, .ref q16, .ref q24, .int 0, .int 0, .int 0, .int 0])), (q8, .inl (c8, 256, .inl fun _ => 0)), (q16, .inl (c16, 64, .inl fun _ => 0)), (q24, .inl (c24, 16, .inl fun _ => 0))] H := hP
  have hD : va_D A [(h0, .inr (3, [.ref q8, .ref q16, .ref q24, .int 0, .int 0, .int 0, .int 0])), (q8, .inl (c8, 256, .inl fun _ => 0)), (q16, .inl (c16, 64, .inl fun _ => 0)), (q24, .inl (c24, 16, .inl fun _ => 0))] := hD
  refine lv_aload_n (k := 0) hx hb (by decide +kernel) rfl (lv_at hl 0 rfl) ?_
  refine lv_iconst (n := 0) (v := 0) hx hb (by decide +kernel) (by decide) ?_
  refine va_put (D := D) (cl := vwCl) (ci := 3) (v := .int 0) (ty := .int) (C := RX3) (T := TX3) (N := 7) (own := RX3) (ref := RX3) (index := 27) hx hb hts (k_in (ci := 3) rfl) tyX3 tyX3_ok nmX3 hown hK hP hD hS 0 rfl rfl 4 (by decide) (hts _ (mx_bg 200 (by decide +kernel) (by decide +kernel))) (fun _ h9 => h9) rfl (by decide +kernel) (by decide) (by decide) (Nat.le_of_ble_eq_true rfl) (by decide +kernel) (fun H locs hP hD hS => ?_)
  have hP : va_P D vwCl [(h0, .inr (3, [.ref q8, .ref q16, .ref q24, .int 0, .int 0, .int 0, .int 0])), (q8, .inl (c8, 256, .inl fun _ => 0)), (q16, .inl (c16, 64, .inl fun _ => 0)), (q24, .inl (c24, 16, .inl fun _ => 0))] H := hP
  have hD : va_D A [(h0, .inr (3, [.ref q8, .ref q16, .ref q24, .int 0, .int 0, .int 0, .int 0])), (q8, .inl (c8, 256, .inl fun _ => 0)), (q16, .inl (c16, 64, .inl fun _ => 0)), (q24, .inl (c24, 16, .inl fun _ => 0))] := hD
  refine lv_aload_n (k := 0) hx hb (by decide +kernel) rfl (lv_at hl 0 rfl) ?_
  refine lv_iconst (n := 0) (v := 0) hx hb (by decide +kernel) (by decide) ?_
  refine va_put (D := D) (cl := vwCl) (ci := 3) (v := .int 0) (ty := .int) (C := RX3) (T := TX3) (N := 7) (own := RX3) (ref := RX3) (index := 31) hx hb hts (k_in (ci := 3) rfl) tyX3 tyX3_ok nmX3 hown hK hP hD hS 0 rfl rfl 5 (by decide) (hts _ (mx_bg 201 (by decide +kernel) (by decide +kernel))) (fun _ h9 => h9) rfl (by decide +kernel) (by decide) (by decide) (Nat.le_of_ble_eq_true rfl) (by decide +kernel) (fun H locs hP hD hS => ?_)
  have hP : va_P D vwCl [(h0, .inr (3, [.ref q8, .ref q16, .ref q24, .int 0, .int 0, .int 0, .int 0])), (q8, .inl (c8, 256, .inl fun _ => 0)), (q16, .inl (c16, 64, .inl fun _ => 0)), (q24, .inl (c24, 16, .inl fun _ => 0))] H := hP
  have hD : va_D A [(h0, .inr (3, [.ref q8, .ref q16, .ref q24, .int 0, .int 0, .int 0, .int 0])), (q8, .inl (c8, 256, .inl fun _ => 0)), (q16, .inl (c16, 64, .inl fun _ => 0)), (q24, .inl (c24, 16, .inl fun _ => 0))] := hD
  refine lv_aload_n (k := 0) hx hb (by decide +kernel) rfl (lv_at hl 0 rfl) ?_
  refine lv_iconst (n := 0) (v := 0) hx hb (by decide +kernel) (by decide) ?_
  refine va_put (D := D) (cl := vwCl) (ci := 3) (v := .int 0) (ty := .int) (C := RX3) (T := TX3) (N := 7) (own := RX3) (ref := RX3) (index := 34) hx hb hts (k_in (ci := 3) rfl) tyX3 tyX3_ok nmX3 hown hK hP hD hS 0 rfl rfl 6 (by decide) (hts _ (mx_bg 202 (by decide +kernel) (by decide +kernel))) (fun _ h9 => h9) rfl (by decide +kernel) (by decide) (by decide) (Nat.le_of_ble_eq_true rfl) (by decide +kernel) (fun H locs hP hD hS => ?_)
  have hP : va_P D vwCl [(h0, .inr (3, [.ref q8, .ref q16, .ref q24, .int 0, .int 0, .int 0, .int 0])), (q8, .inl (c8, 256, .inl fun _ => 0)), (q16, .inl (c16, 64, .inl fun _ => 0)), (q24, .inl (c24, 16, .inl fun _ => 0))] H := hP
  have hD : va_D A [(h0, .inr (3, [.ref q8, .ref q16, .ref q24, .int 0, .int 0, .int 0, .int 0])), (q8, .inl (c8, 256, .inl fun _ => 0)), (q16, .inl (c16, 64, .inl fun _ => 0)), (q24, .inl (c24, 16, .inl fun _ => 0))] := hD
  exact W.vret hx hb hr (fun t ht hW => ⟨⟨(), rfl, trivial, fun i => ([q8, q16, q24] : List Nat).getD i 0, fun i => ([c8, c16, c24] : List Nat).getD i 0, by rw [ht]; exact hP, va_K.moved hW.alike hK, hD⟩, hS.F ht⟩) hS.2.2 (by decide +kernel)
def kW_X0 (h : Nat) (as : Nat → Nat) (cs : Nat → ClassId) : va_W := [(h, .inr (0, [.ref (as 0), .ref (as 1)])), (as 0, .inl (cs 0, 16, .inl fun _ => 0)), (as 1, .inl (cs 1, 16, .inl fun _ => 0))]
def kT_X0 (cs : Nat → ClassId) : List (ClassId × FieldType) := [(cs 0, .int), (cs 1, .int)]
set_option maxRecDepth 100000 in
set_option maxHeartbeats 4000000 in
theorem k_X0 (l : Launch) (D : va_G) (h0 sz : Nat) : Met l yX0_init (k_ws yX0_init cX0_init) ({ frames := 1, cells := 2, slots := 32, locals := 12 }) (k_Pc D h0 sz 0 [.null, .null]) (k_Qc D (va_A [(h0, .inr (0, [.null, .null]))] sz) (kW_X0 h0) kT_X0) 2 32 (va_A [(h0, .inr (0, [.null, .null]))] sz) := by
  refine Met.ofW (cc := cX0_init) (maxL := 1) (ret := none) (by decide +kernel) rfl ?_
  intro p e s m args below meth c s₁ B hml hv
  obtain ⟨rfl, hsz, hP, hK, hD0, hO1, hO2⟩ := hv
  have hx := B.exec
  have hb := B.bytes
  have hr := B.returns
  have hts0 := atoms_spec (ws := k_ws yX0_init cX0_init) B.pre
  have hts := fun w hw => hts0 w (List.mem_cons_of_mem _ hw)
  have hown : s.vm.findClass RX0 = some m.cls := findClass_of_methodNamed B.named
  have hlocks := B.notSynchronized
  have hin : meth.name = "<init>" := (name_of_methodNamed B.named B.method).1
  subst hsz
  have hD := hD0.self (sz := s.heap.size)
  generalize hAe : va_A [(h0, .inr (0, [.null, .null]))] s.heap.size = A at hD ⊢
  have hA : ∀ q : Nat, s.heap.size ≤ q → A q := fun q h => by rw [← hAe]; exact Or.inr h
  have hS : va_S A s.heap s.heap [] := va_S.rf
  have hP : va_P D vwCl [(h0, .inr (0, [.null, .null]))] s.heap := hP
  have hl := lv_entry ([.ref h0]) (n := 1) (Nat.le_of_ble_eq_true rfl)
  rw [lg_entry_eq]
  generalize (lg_sl ([.ref h0]) ++ List.replicate (1 - (lg_sl ([.ref h0])).length) Slot.unset).toArray = ls at hl ⊢
  have hl : lv_has ls 1 [(0, .ref h0)] := hl
  refine lv_aload_n (k := 0) hx hb (by decide +kernel) rfl (lv_at hl 0 rfl) ?_
  refine W.objInit (own := RX0) (idx := 3) hx hb hown (hts _ (mx_bg 223 (by decide +kernel) (by decide +kernel))) (hts _ k_w1) (hts _ k_w2) rfl (by rw [hml]; exact hl.1) rfl (show decode cX0_init 1 = .ok (.invokespecial 3, 3) from by decide +kernel) (Nat.le_of_ble_eq_true rfl) (Nat.le_of_ble_eq_true rfl) ?_
  refine W.eq (g2 := F0 m 4 ls []) rfl ?_
  refine lv_aload_n (k := 0) hx hb (by decide +kernel) rfl (lv_at hl 0 rfl) ?_
  refine lv_bipush (n := 16) (v := 16) hx hb (by decide +kernel) (by decide) ?_
  refine va_newa (atype := .int) (ty := .int) (n := 16) (N' := 16) (a0 := (16, .inl fun _ => 0)) hx hb (hts _ (mx_bg 80 (by decide +kernel) (by decide +kernel))) rfl hK hP hD hS hA (fun cA => rfl) (by decide) (by decide) (by decide) (Nat.le_of_ble_eq_true rfl) (Nat.le_of_ble_eq_true rfl) (by decide +kernel) (fun q7 c7 H hK hP hD hS => ?_)
  have hP : va_P D vwCl [(h0, .inr (0, [.null, .null])), (q7, .inl (c7, 16, .inl fun _ => 0))] H := hP
  have hD : va_D A [(h0, .inr (0, [.null, .null])), (q7, .inl (c7, 16, .inl fun _ => 0))] := hD
  have hK : va_K D vwCl [(c7, .int)] s := hK
  refine W.widen (k := 1) (n := 16) (Nat.le_of_ble_eq_true rfl) (Nat.le_of_ble_eq_true rfl) ?_
  refine va_putF (D := D) (cl := vwCl) (ci := 0) (v := .ref q7) (ty := .array .int) (C := RX0) (T := TX0) (N := 2) (own := RX0) (ref := RX0) (index := 11) hx hb hts (k_in (ci := 0) rfl) tyX0 tyX0_ok nmX0 hown hK hP hD hS 0 rfl rfl 0 (by decide) (hts _ (mx_bg 224 (by decide +kernel) (by decide +kernel))) (fun _ h9 => h9) rfl hin rfl (by decide +kernel) rfl rfl (Nat.le_of_ble_eq_true rfl) (by decide +kernel) (fun H locs hP hD hS => ?_)
  have hP : va_P D vwCl [(h0, .inr (0, [.ref q7, .null])), (q7, .inl (c7, 16, .inl fun _ => 0))] H := hP
  have hD : va_D A [(h0, .inr (0, [.ref q7, .null])), (q7, .inl (c7, 16, .inl fun _ => 0))] := hD
  refine lv_aload_n (k := 0) hx hb (by decide +kernel) rfl (lv_at hl 0 rfl) ?_
  refine lv_bipush (n := 16) (v := 16) hx hb (by decide +kernel) (by decide) ?_
  refine va_newa (atype := .int) (ty := .int) (n := 16) (N' := 16) (a0 := (16, .inl fun _ => 0)) hx hb (hts _ (mx_bg 80 (by decide +kernel) (by decide +kernel))) rfl hK hP hD hS hA (fun cA => rfl) (by decide) (by decide) (by decide) (Nat.le_of_ble_eq_true rfl) (Nat.le_of_ble_eq_true rfl) (by decide +kernel) (fun q15 c15 H hK hP hD hS => ?_)
  have hP : va_P D vwCl [(h0, .inr (0, [.ref q7, .null])), (q7, .inl (c7, 16, .inl fun _ => 0)), (q15, .inl (c15, 16, .inl fun _ => 0))] H := hP
  have hD : va_D A [(h0, .inr (0, [.ref q7, .null])), (q7, .inl (c7, 16, .inl fun _ => 0)), (q15, .inl (c15, 16, .inl fun _ => 0))] := hD
  have hK : va_K D vwCl [(c7, .int), (c15, .int)] s := hK
  refine W.widen (k := 2) (n := 32) (Nat.le_of_ble_eq_true rfl) (Nat.le_of_ble_eq_true rfl) ?_
  refine va_putF (D := D) (cl := vwCl) (ci := 0) (v := .ref q15) (ty := .array .int) (C := RX0) (T := TX0) (N := 2) (own := RX0) (ref := RX0) (index := 17) hx hb hts (k_in (ci := 0) rfl) tyX0 tyX0_ok nmX0 hown hK hP hD hS 0 rfl rfl 1 (by decide) (hts _ (mx_bg 225 (by decide +kernel) (by decide +kernel))) (fun _ h9 => h9) rfl hin rfl (by decide +kernel) rfl rfl (Nat.le_of_ble_eq_true rfl) (by decide +kernel) (fun H locs hP hD hS => ?_)
  have hP : va_P D vwCl [(h0, .inr (0, [.ref q7, .ref q15])), (q7, .inl (c7, 16, .inl fun _ => 0)), (q15, .inl (c15, 16, .inl fun _ => 0))] H := hP
  have hD : va_D A [(h0, .inr (0, [.ref q7, .ref q15])), (q7, .inl (c7, 16, .inl fun _ => 0)), (q15, .inl (c15, 16, .inl fun _ => 0))] := hD
  exact W.vret hx hb hr (fun t ht hW => ⟨⟨(), rfl, trivial, fun i => ([q7, q15] : List Nat).getD i 0, fun i => ([c7, c15] : List Nat).getD i 0, by rw [ht]; exact hP, va_K.moved hW.alike hK, hD⟩, hS.F ht⟩) hS.2.2 (by decide +kernel)
def kW_X7 (h : Nat) (as : Nat → Nat) (cs : Nat → ClassId) : va_W := [(h, .inr (7, [.ref (as 0), .ref (as 1), .ref (as 2)])), (as 0, .inl (cs 0, 3, .inr (.inr (.inr (.inr fun i => if i < 3 then some (as 0 + 1 + i) else none))))), (as 0 + 1 + 0, .inl (cs 1, 20, .inl fun _ => 0)), (as 0 + 1 + 1, .inl (cs 1, 20, .inl fun _ => 0)), (as 0 + 1 + 2, .inl (cs 1, 20, .inl fun _ => 0)), (as 1, .inl (cs 2, 3, .inl fun _ => 0)), (as 2, .inl (cs 3, 3, .inl fun _ => 0))]
def kT_X7 (cs : Nat → ClassId) : List (ClassId × FieldType) := [(cs 0, .array .int), (cs 1, .int), (cs 2, .int), (cs 3, .boolean)]
set_option maxRecDepth 100000 in
set_option maxHeartbeats 4000000 in
theorem k_X7 (l : Launch) (D : va_G) (h0 sz : Nat) : Met l yX7_init (k_ws yX7_init cX7_init) ({ frames := 1, cells := 6, slots := 69, locals := 12 }) (k_Pc D h0 sz 7 [.null, .null, .null]) (k_Qc D (va_A [(h0, .inr (7, [.null, .null, .null]))] sz) (kW_X7 h0) kT_X7) 6 69 (va_A [(h0, .inr (7, [.null, .null, .null]))] sz) := by
  refine Met.ofW (cc := cX7_init) (maxL := 1) (ret := none) (by decide +kernel) rfl ?_
  intro p e s m args below meth c s₁ B hml hv
  obtain ⟨rfl, hsz, hP, hK, hD0, hO1, hO2⟩ := hv
  have hx := B.exec
  have hb := B.bytes
  have hr := B.returns
  have hts0 := atoms_spec (ws := k_ws yX7_init cX7_init) B.pre
  have hts := fun w hw => hts0 w (List.mem_cons_of_mem _ hw)
  have hown : s.vm.findClass RX7 = some m.cls := findClass_of_methodNamed B.named
  have hlocks := B.notSynchronized
  have hin : meth.name = "<init>" := (name_of_methodNamed B.named B.method).1
  subst hsz
  have hD := hD0.self (sz := s.heap.size)
  generalize hAe : va_A [(h0, .inr (7, [.null, .null, .null]))] s.heap.size = A at hD ⊢
  have hA : ∀ q : Nat, s.heap.size ≤ q → A q := fun q h => by rw [← hAe]; exact Or.inr h
  have hS : va_S A s.heap s.heap [] := va_S.rf
  have hP : va_P D vwCl [(h0, .inr (7, [.null, .null, .null]))] s.heap := hP
  have hl := lv_entry ([.ref h0]) (n := 1) (Nat.le_of_ble_eq_true rfl)
  rw [lg_entry_eq]
  generalize (lg_sl ([.ref h0]) ++ List.replicate (1 - (lg_sl ([.ref h0])).length) Slot.unset).toArray = ls at hl ⊢
  have hl : lv_has ls 1 [(0, .ref h0)] := hl
  refine lv_aload_n (k := 0) hx hb (by decide +kernel) rfl (lv_at hl 0 rfl) ?_
  refine W.objInit (own := RX7) (idx := 3) hx hb hown (hts _ (mx_bg 236 (by decide +kernel) (by decide +kernel))) (hts _ k_w1) (hts _ k_w2) rfl (by rw [hml]; exact hl.1) rfl (show decode cX7_init 1 = .ok (.invokespecial 3, 3) from by decide +kernel) (Nat.le_of_ble_eq_true rfl) (Nat.le_of_ble_eq_true rfl) ?_
  refine W.eq (g2 := F0 m 4 ls []) rfl ?_
  refine lv_aload_n (k := 0) hx hb (by decide +kernel) rfl (lv_at hl 0 rfl) ?_
  refine lv_iconst (n := 3) (v := 3) hx hb (by decide +kernel) (by decide) ?_
  refine lv_bipush (n := 20) (v := 20) hx hb (by decide +kernel) (by decide) ?_
  refine mm_multi (own := RX7) (index := 11) (ty := .int) (n := 3) (k := 20) (N := 3) (M := 20) (a0 := (20, .inl fun _ => 0)) hx hb hown (hts _ (mx_bg 237 (by decide +kernel) (by decide +kernel))) hO1 (hts _ (mx_bg 80 (by decide +kernel) (by decide +kernel))) hK hP hD hS hA rfl (by decide) (by decide) (by decide) (by decide) (by decide) (by decide) (by decide) rfl (Or.inl rfl) (fun cB => rfl) (Nat.le_of_ble_eq_true rfl) (Nat.le_of_ble_eq_true rfl) (by decide +kernel) (fun q8 c8 d8 H hK hP hD hS => ?_)
  have hP : va_P D vwCl [(h0, .inr (7, [.null, .null, .null])), (q8, .inl (c8, 3, .inr (.inr (.inr (.inr fun i => if i < 3 then some (q8 + 1 + i) else none))))), (q8 + 1 + 0, .inl (d8, 20, .inl fun _ => 0)), (q8 + 1 + 1, .inl (d8, 20, .inl fun _ => 0)), (q8 + 1 + 2, .inl (d8, 20, .inl fun _ => 0))] H := hP
  have hD : va_D A [(h0, .inr (7, [.null, .null, .null])), (q8, .inl (c8, 3, .inr (.inr (.inr (.inr fun i => if i < 3 then some (q8 + 1 + i) else none))))), (q8 + 1 + 0, .inl (d8, 20, .inl fun _ => 0)), (q8 + 1 + 1, .inl (d8, 20, .inl fun _ => 0)), (q8 + 1 + 2, .inl (d8, 20, .inl fun _ => 0))] := hD
  have hK : va_K D vwCl [(c8, .array .int), (d8, .int)] s := hK
  refine W.widen (k := 4) (n := 63) (Nat.le_of_ble_eq_true rfl) (Nat.le_of_ble_eq_true rfl) ?_
  refine va_putF (D := D) (cl := vwCl) (ci := 7) (v := .ref q8) (ty := .array (.array .int)) (C := RX7) (T := TX7) (N := 3) (own := RX7) (ref := RX7) (index := 13) hx hb hts (k_in (ci := 7) rfl) tyX7 tyX7_ok nmX7 hown hK hP hD hS 0 rfl rfl 0 (by decide) (hts _ (mx_bg 238 (by decide +kernel) (by decide +kernel))) (fun _ h9 => h9) rfl hin rfl (by decide +kernel) rfl rfl (Nat.le_of_ble_eq_true rfl) (by decide +kernel) (fun H locs hP hD hS => ?_)
  have hP : va_P D vwCl [(h0, .inr (7, [.ref q8, .null, .null])), (q8, .inl (c8, 3, .inr (.inr (.inr (.inr fun i => if i < 3 then some (q8 + 1 + i) else none))))), (q8 + 1 + 0, .inl (d8, 20, .inl fun _ => 0)), (q8 + 1 + 1, .inl (d8, 20, .inl fun _ => 0)), (q8 + 1 + 2, .inl (d8, 20, .inl fun _ => 0))] H := hP
  have hD : va_D A [(h0, .inr (7, [.ref q8, .null, .null])), (q8, .inl (c8, 3, .inr (.inr (.inr (.inr fun i => if i < 3 then some (q8 + 1 + i) else none))))), (q8 + 1 + 0, .inl (d8, 20, .inl fun _ => 0)), (q8 + 1 + 1, .inl (d8, 20, .inl fun _ => 0)), (q8 + 1 + 2, .inl (d8, 20, .inl fun _ => 0))] := hD
  refine lv_aload_n (k := 0) hx hb (by decide +kernel) rfl (lv_at hl 0 rfl) ?_
  refine lv_iconst (n := 3) (v := 3) hx hb (by decide +kernel) (by decide) ?_
  refine va_newa (atype := .int) (ty := .int) (n := 3) (N' := 3) (a0 := (3, .inl fun _ => 0)) hx hb (hts _ (mx_bg 80 (by decide +kernel) (by decide +kernel))) rfl hK hP hD hS hA (fun cA => rfl) (by decide) (by decide) (by decide) (Nat.le_of_ble_eq_true rfl) (Nat.le_of_ble_eq_true rfl) (by decide +kernel) (fun q17 c17 H hK hP hD hS => ?_)
  have hP : va_P D vwCl [(h0, .inr (7, [.ref q8, .null, .null])), (q8, .inl (c8, 3, .inr (.inr (.inr (.inr fun i => if i < 3 then some (q8 + 1 + i) else none))))), (q8 + 1 + 0, .inl (d8, 20, .inl fun _ => 0)), (q8 + 1 + 1, .inl (d8, 20, .inl fun _ => 0)), (q8 + 1 + 2, .inl (d8, 20, .inl fun _ => 0)), (q17, .inl (c17, 3, .inl fun _ => 0))] H := hP
  have hD : va_D A [(h0, .inr (7, [.ref q8, .null, .null])), (q8, .inl (c8, 3, .inr (.inr (.inr (.inr fun i => if i < 3 then some (q8 + 1 + i) else none))))), (q8 + 1 + 0, .inl (d8, 20, .inl fun _ => 0)), (q8 + 1 + 1, .inl (d8, 20, .inl fun _ => 0)), (q8 + 1 + 2, .inl (d8, 20, .inl fun _ => 0)), (q17, .inl (c17, 3, .inl fun _ => 0))] := hD
  have hK : va_K D vwCl [(c8, .array .int), (d8, .int), (c17, .int)] s := hK
  refine W.widen (k := 5) (n := 66) (Nat.le_of_ble_eq_true rfl) (Nat.le_of_ble_eq_true rfl) ?_
  refine va_putF (D := D) (cl := vwCl) (ci := 7) (v := .ref q17) (ty := .array .int) (C := RX7) (T := TX7) (N := 3) (own := RX7) (ref := RX7) (index := 16) hx hb hts (k_in (ci := 7) rfl) tyX7 tyX7_ok nmX7 hown hK hP hD hS 0 rfl rfl 1 (by decide) (hts _ (mx_bg 239 (by decide +kernel) (by decide +kernel))) (fun _ h9 => h9) rfl hin rfl (by decide +kernel) rfl rfl (Nat.le_of_ble_eq_true rfl) (by decide +kernel) (fun H locs hP hD hS => ?_)
  have hP : va_P D vwCl [(h0, .inr (7, [.ref q8, .ref q17, .null])), (q8, .inl (c8, 3, .inr (.inr (.inr (.inr fun i => if i < 3 then some (q8 + 1 + i) else none))))), (q8 + 1 + 0, .inl (d8, 20, .inl fun _ => 0)), (q8 + 1 + 1, .inl (d8, 20, .inl fun _ => 0)), (q8 + 1 + 2, .inl (d8, 20, .inl fun _ => 0)), (q17, .inl (c17, 3, .inl fun _ => 0))] H := hP
  have hD : va_D A [(h0, .inr (7, [.ref q8, .ref q17, .null])), (q8, .inl (c8, 3, .inr (.inr (.inr (.inr fun i => if i < 3 then some (q8 + 1 + i) else none))))), (q8 + 1 + 0, .inl (d8, 20, .inl fun _ => 0)), (q8 + 1 + 1, .inl (d8, 20, .inl fun _ => 0)), (q8 + 1 + 2, .inl (d8, 20, .inl fun _ => 0)), (q17, .inl (c17, 3, .inl fun _ => 0))] := hD
  refine lv_aload_n (k := 0) hx hb (by decide +kernel) rfl (lv_at hl 0 rfl) ?_
  refine lv_iconst (n := 3) (v := 3) hx hb (by decide +kernel) (by decide) ?_
  refine va_newa (atype := .boolean) (ty := .boolean) (n := 3) (N' := 3) (a0 := (3, .inl fun _ => 0)) hx hb (hts _ (mx_bg 248 (by decide +kernel) (by decide +kernel))) rfl hK hP hD hS hA (fun cA => rfl) (by decide) (by decide) (by decide) (Nat.le_of_ble_eq_true rfl) (Nat.le_of_ble_eq_true rfl) (by decide +kernel) (fun q24 c24 H hK hP hD hS => ?_)
  have hP : va_P D vwCl [(h0, .inr (7, [.ref q8, .ref q17, .null])), (q8, .inl (c8, 3, .inr (.inr (.inr (.inr fun i => if i < 3 then some (q8 + 1 + i) else none))))), (q8 + 1 + 0, .inl (d8, 20, .inl fun _ => 0)), (q8 + 1 + 1, .inl (d8, 20, .inl fun _ => 0)), (q8 + 1 + 2, .inl (d8, 20, .inl fun _ => 0)), (q17, .inl (c17, 3, .inl fun _ => 0)), (q24, .inl (c24, 3, .inl fun _ => 0))] H := hP
  have hD : va_D A [(h0, .inr (7, [.ref q8, .ref q17, .null])), (q8, .inl (c8, 3, .inr (.inr (.inr (.inr fun i => if i < 3 then some (q8 + 1 + i) else none))))), (q8 + 1 + 0, .inl (d8, 20, .inl fun _ => 0)), (q8 + 1 + 1, .inl (d8, 20, .inl fun _ => 0)), (q8 + 1 + 2, .inl (d8, 20, .inl fun _ => 0)), (q17, .inl (c17, 3, .inl fun _ => 0)), (q24, .inl (c24, 3, .inl fun _ => 0))] := hD
  have hK : va_K D vwCl [(c8, .array .int), (d8, .int), (c17, .int), (c24, .boolean)] s := hK
  refine W.widen (k := 6) (n := 69) (Nat.le_of_ble_eq_true rfl) (Nat.le_of_ble_eq_true rfl) ?_
  refine va_putF (D := D) (cl := vwCl) (ci := 7) (v := .ref q24) (ty := .array .boolean) (C := RX7) (T := TX7) (N := 3) (own := RX7) (ref := RX7) (index := 20) hx hb hts (k_in (ci := 7) rfl) tyX7 tyX7_ok nmX7 hown hK hP hD hS 0 rfl rfl 2 (by decide) (hts _ (mx_bg 240 (by decide +kernel) (by decide +kernel))) (fun _ h9 => h9) rfl hin rfl (by decide +kernel) rfl rfl (Nat.le_of_ble_eq_true rfl) (by decide +kernel) (fun H locs hP hD hS => ?_)
  have hP : va_P D vwCl [(h0, .inr (7, [.ref q8, .ref q17, .ref q24])), (q8, .inl (c8, 3, .inr (.inr (.inr (.inr fun i => if i < 3 then some (q8 + 1 + i) else none))))), (q8 + 1 + 0, .inl (d8, 20, .inl fun _ => 0)), (q8 + 1 + 1, .inl (d8, 20, .inl fun _ => 0)), (q8 + 1 + 2, .inl (d8, 20, .inl fun _ => 0)), (q17, .inl (c17, 3, .inl fun _ => 0)), (q24, .inl (c24, 3, .inl fun _ => 0))] H := hP
  have hD : va_D A [(h0, .inr (7, [.ref q8, .ref q17, .ref q24])), (q8, .inl (c8, 3, .inr (.inr (.inr (.inr fun i => if i < 3 then some (q8 + 1 + i) else none))))), (q8 + 1 + 0, .inl (d8, 20, .inl fun _ => 0)), (q8 + 1 + 1, .inl (d8, 20, .inl fun _ => 0)), (q8 + 1 + 2, .inl (d8, 20, .inl fun _ => 0)), (q17, .inl (c17, 3, .inl fun _ => 0)), (q24, .inl (c24, 3, .inl fun _ => 0))] := hD
  exact W.vret hx hb hr (fun t ht hW => ⟨⟨(), rfl, trivial, fun i => ([q8, q17, q24] : List Nat).getD i 0, fun i => ([c8, d8, c17, c24] : List Nat).getD i 0, by rw [ht]; exact hP, va_K.moved hW.alike hK, hD⟩, hS.F ht⟩) hS.2.2 (by decide +kernel)
