/-! printed by wip/p46/g_gen6.py: the constructor of ConstrainedCoder -/
theorem k_good {y : MethodName} {cc : ByteArray} (h : Jvm.Cond.code y cc 1 none ∈ mx_big) : GoodIn mx_big (k_ws y cc) := by
  have hg := mx_hy.2.2.2.2.2.2.2.2.2.2.2.2.2.2
  intro w hw
  rcases List.mem_cons.mp hw with rfl | hw
  · exact ⟨h, good_of_word (hg _ h)⟩
  · exact ⟨hw, good_of_word (hg w hw)⟩
theorem k_blind {D : va_G} {h0 sz ci : Nat} {fs : List Value} : FrameBlind (k_Pc D h0 sz ci fs) := by
  intro a U g mk ⟨q0, q1, qP, qK, qD, qo1, qo2⟩
  exact ⟨q0, q1, qP, va_K.moved (u := U) (U := U.calling g mk a) (Vm.Alike.refl U.vm) qK, qD, mm_AO.moved (u := U) (U := U.calling g mk a) (Vm.Alike.refl U.vm) qo1, mm_AO.moved (u := U) (U := U.calling g mk a) (Vm.Alike.refl U.vm) qo2⟩
theorem k_nd : ∀ l : List Nat, l.Nodup → va_nd l = true
  | [], _ => rfl
  | a :: r, h => by
    obtain ⟨h1, h2⟩ := List.nodup_cons.mp h
    unfold va_nd
    simp [h1, k_nd r h2]
theorem k_at {old : va_W} {x : Nat × va_E} : [old.length].map (fun i => (old ++ [x])[i]?) = [x].map some := by simp
theorem k_subP {D : va_G} {cl : List vw_C} {old : va_W} {x : Nat × va_E} {H : Heap} (hP : va_P D cl (old ++ [x]) H) : va_P D cl [x] H := hP.sub [old.length] (by simp)
theorem k_subD {A : Nat → Prop} {old : va_W} {x : Nat × va_E} (hD : va_D A (old ++ [x])) : va_D A [x] := hD.sub [old.length] rfl k_at
theorem k_free {A0 : Nat → Prop} {old : va_W} {x : Nat × va_E} {H0 H : Heap} {locs : List Loc} (hD : va_D A0 (old ++ [x])) (hS : va_S A0 H0 H locs) (hA : ∀ q, H0.size ≤ q → A0 q) : ∀ q, va_A [x] H.size q → A0 q := va_free hD hS hA [old.length] k_at
theorem k_rg {old r : va_W} : (List.range old.length).map (fun i => (old ++ r)[i]?) = old.map some := by
  apply List.ext_getElem?
  intro i
  rw [List.getElem?_map, List.getElem?_map]
  by_cases h : i < old.length
  · rw [List.getElem?_range h, Option.map_some, List.getElem?_append_left h, List.getElem?_eq_getElem h]
    rfl
  · rw [List.getElem?_eq_none (by simp; omega), List.getElem?_eq_none (by omega)]
    rfl
theorem k_join {A : Nat → Prop} {D : va_G} {cl : List vw_C} {old w1 : va_W} {x : Nat × va_E} {H H1 : Heap} (hP : va_P D cl (old ++ [x]) H) (hD : va_D A (old ++ [x])) (hk : ∀ q : Nat, q < H.size → ¬ va_A [x] H.size q → H1[q]? = H[q]?) (hF : ∀ q, va_A [x] H.size q → A q) (hP1 : va_P D cl w1 H1) (hD1 : va_D (va_A [x] H.size) w1) : va_P D cl (old ++ w1) H1 ∧ va_D A (old ++ w1) :=
  va_join hP hD [old.length] (List.range old.length) k_at k_rg (k_nd _ List.nodup_range) (fun i hi h => by
    have h1 := List.mem_range.mp hi
    have h2 := List.mem_singleton.mp h
    omega) hk hF hP1 hD1
def kW_X10 (h : Nat) (qs : Nat → Nat) (ass : Nat → Nat → Nat) (css : Nat → Nat → ClassId) : va_W := (h, .inr (10, [.ref (qs 0), .ref (qs 1), .ref (qs 2), .ref (qs 3), .ref (qs 4), .ref (qs 5), .ref (qs 6), .ref (qs 7), .ref (qs 8), .ref (qs 9), .ref (qs 10), .ref (qs 11), .int 0])) :: (kW_X4 (qs 0) (ass 0) (css 0) ++ kW_X8 (qs 1) (ass 1) (css 1) ++ kW_X1 (qs 2) (ass 2) (css 2) ++ kW_X6 (qs 3) (ass 3) (css 3) ++ kW_X9 (qs 4) (ass 4) (css 4) ++ kW_X5 (qs 5) (ass 5) (css 5) ++ kW_X2 (qs 6) (ass 6) (css 6) ++ kW_X3 (qs 7) (ass 7) (css 7) ++ kW_X0 (qs 8) (ass 8) (css 8) ++ kW_X7 (qs 9) (ass 9) (css 9) ++ kW_X4 (qs 10) (ass 10) (css 10) ++ kW_X8 (qs 11) (ass 11) (css 11))
def kT_X10 (css : Nat → Nat → ClassId) : List (ClassId × FieldType) := [] ++ kT_X4 (css 0) ++ kT_X8 (css 1) ++ kT_X1 (css 2) ++ kT_X6 (css 3) ++ kT_X9 (css 4) ++ kT_X5 (css 5) ++ kT_X2 (css 6) ++ kT_X3 (css 7) ++ kT_X0 (css 8) ++ kT_X7 (css 9) ++ kT_X4 (css 10) ++ kT_X8 (css 11)
set_option maxRecDepth 100000 in
set_option maxHeartbeats 8000000 in
theorem k_X10 (l : Launch) (D : va_G) (h0 sz : Nat) : Met l yX10_init (k_ws yX10_init cX10_init) ({ frames := 2, cells := 68, slots := 8835, locals := 32 }) (k_Pc D h0 sz 10 [.null, .null, .null, .null, .null, .null, .null, .null, .null, .null, .null, .null, .int 0]) (va_Qv (fun _ : Unit => True) (fun _ U => ∃ (qs : Nat → Nat) (ass : Nat → Nat → Nat) (css : Nat → Nat → ClassId), va_P D vwCl (kW_X10 h0 qs ass css) U.heap ∧ va_K D vwCl (kT_X10 css) U ∧ va_D (va_A [(h0, .inr (10, [.null, .null, .null, .null, .null, .null, .null, .null, .null, .null, .null, .null, .int 0]))] sz) (kW_X10 h0 qs ass css)) (va_A [(h0, .inr (10, [.null, .null, .null, .null, .null, .null, .null, .null, .null, .null, .null, .null, .int 0]))] sz)) 68 8835 (va_A [(h0, .inr (10, [.null, .null, .null, .null, .null, .null, .null, .null, .null, .null, .null, .null, .int 0]))] sz) := by
  refine Met.ofW (cc := cX10_init) (maxL := 1) (ret := none) (by decide +kernel) rfl ?_
  intro p e s m args below meth c s₁ B hml hv
  obtain ⟨rfl, hsz, hP, hK, hD0, hO1, hO2⟩ := hv
  have hx := B.exec
  have hb := B.bytes
  have hr := B.returns
  have hts0 := atoms_spec (ws := k_ws yX10_init cX10_init) B.pre
  have hts := fun w hw => hts0 w (List.mem_cons_of_mem _ hw)
  have hown : s.vm.findClass RX10 = some m.cls := findClass_of_methodNamed B.named
  have hlocks := B.notSynchronized
  have hin : meth.name = "<init>" := (name_of_methodNamed B.named B.method).1
  subst hsz
  have hD := hD0.self (sz := s.heap.size)
  generalize hAe : va_A [(h0, .inr (10, [.null, .null, .null, .null, .null, .null, .null, .null, .null, .null, .null, .null, .int 0]))] s.heap.size = A at hD ⊢
  have hA : ∀ q : Nat, s.heap.size ≤ q → A q := fun q h => by rw [← hAe]; exact Or.inr h
  have hS : va_S A s.heap s.heap [] := va_S.rf
  have hP : va_P D vwCl ((h0, .inr (10, [.null, .null, .null, .null, .null, .null, .null, .null, .null, .null, .null, .null, .int 0])) :: []) s.heap := hP
  have hl := lv_entry ([.ref h0]) (n := 1) (Nat.le_of_ble_eq_true rfl)
  rw [lg_entry_eq]
  generalize (lg_sl ([.ref h0]) ++ List.replicate (1 - (lg_sl ([.ref h0])).length) Slot.unset).toArray = ls at hl ⊢
  have hl : lv_has ls 1 [(0, .ref h0)] := hl
  refine lv_aload_n (k := 0) hx hb (by decide +kernel) rfl (lv_at hl 0 rfl) ?_
  refine W.objInit (own := RX10) (idx := 1) hx hb hown (hts _ (mx_bg 49 (by decide +kernel) (by decide +kernel))) (hts _ k_w1) (hts _ k_w2) rfl (by rw [hml]; exact hl.1) rfl (show decode cX10_init 1 = .ok (.invokespecial 1, 3) from by decide +kernel) (Nat.le_of_ble_eq_true rfl) (Nat.le_of_ble_eq_true rfl) ?_
  refine W.eq (g2 := F0 m 4 ls []) rfl ?_
  refine lv_aload_n (k := 0) hx hb (by decide +kernel) rfl (lv_at hl 0 rfl) ?_
  refine va_new (ci := 4) (fs := [.null, .null, .null, .null, .int 0, .int 0, .int 0]) (own := RX10) (C := RX4) (T := TX4) (N := 7) (index := 7) hx hb hts (k_in (ci := 4) rfl) tyX4 tyX4_ok hown (hts _ (mx_bg 52 (by decide +kernel) (by decide +kernel))) (hts _ (mx_bg 53 (by decide +kernel) (by decide +kernel))) (hts _ (mx_bg 30 (by decide +kernel) (by decide +kernel))) hK hP hD hS hA rfl (by decide) (Nat.le_of_ble_eq_true rfl) (Nat.le_of_ble_eq_true rfl) (by decide +kernel) (fun q5 H hP hD hS => ?_)
  have hP : va_P D vwCl (((h0, .inr (10, [.null, .null, .null, .null, .null, .null, .null, .null, .null, .null, .null, .null, .int 0])) :: []) ++ [(q5, .inr (4, [.null, .null, .null, .null, .int 0, .int 0, .int 0]))]) H := hP
  have hD : va_D A (((h0, .inr (10, [.null, .null, .null, .null, .null, .null, .null, .null, .null, .null, .null, .null, .int 0])) :: []) ++ [(q5, .inr (4, [.null, .null, .null, .null, .int 0, .int 0, .int 0]))]) := hD
  refine W.widen (k := 1) (n := 7) (Nat.le_of_ble_eq_true rfl) (Nat.le_of_ble_eq_true rfl) ?_
  refine lv_dup hx hb (by decide +kernel) rfl ?_
  have hPc := k_subP hP
  have hDc := k_subD hD
  have hKc := hK.sub (tys' := []) [] rfl
  have hFc := k_free hD hS hA
  refine va_callv (va_runI (index := 9) (As := []) (rest := [.ref q5, .ref h0]) ⟨hx, hb, hml, hown, hts⟩ (k_X4 l D q5 H.size) (cwI 0 hts (k_good (mx_bg 56 (by decide +kernel) (by decide +kernel))) rfl rfl rfl (hts _ (mx_bg 30 (by decide +kernel) (by decide +kernel))) (hts (.methodLink RX10 9 yX4_init) (mx_bg 54 (by decide +kernel) (by decide +kernel))) (hts _ (mx_bg 55 (by decide +kernel) (by decide +kernel))) rfl (by decide +kernel) ⟨(Nat.le_of_ble_eq_true rfl), (Nat.le_of_ble_eq_true rfl)⟩) ⟨k_blind, fun U hU hW => ⟨rfl, by rw [hU], by rw [hU]; exact hPc, va_K.moved hW.alike hKc, hDc.weaken (fun _ _ _ _ => trivial), hO1.moved hW.alike, hO2.moved hW.alike⟩⟩ rfl rfl hl.1 rfl (lv_room (Nat.le_of_ble_eq_true rfl)) (show decode cX10_init 9 = .ok (.invokespecial 9, 3) from by decide +kernel) ⟨(Nat.le_of_ble_eq_true rfl), (Nat.le_of_ble_eq_true rfl)⟩) hS (fun q _ h => hFc q h) hFc (fun u t H1 locs ht hvm hu hB hz1 hk1 hS => ?_)
  obtain ⟨asq5, csq5, hP1, hK1, hD1⟩ := hB
  rw [ht] at hP1
  have hK1 := va_K.moved hvm.symm hK1
  obtain ⟨hP, hD⟩ := k_join hP hD hk1 hFc hP1 hD1
  have hK := hK.app hK1
  generalize H1 = H at hP hS ⊢
  have hP : va_P D vwCl ((h0, .inr (10, [.null, .null, .null, .null, .null, .null, .null, .null, .null, .null, .null, .null, .int 0])) :: (kW_X4 q5 asq5 csq5)) H := hP
  have hD : va_D A ((h0, .inr (10, [.null, .null, .null, .null, .null, .null, .null, .null, .null, .null, .null, .null, .int 0])) :: (kW_X4 q5 asq5 csq5)) := hD
  have hK : va_K D vwCl ([] ++ kT_X4 csq5) s := hK
  refine W.widen (k := 5) (n := 215) (Nat.le_of_ble_eq_true rfl) (Nat.le_of_ble_eq_true rfl) ?_
  refine va_putF (D := D) (cl := vwCl) (ci := 10) (v := .ref q5) (ty := .object "ConstrainedCoder$Graph") (C := RX10) (T := TX10) (N := 13) (own := RX10) (ref := RX10) (index := 10) hx hb hts (k_in (ci := 10) rfl) tyX10 tyX10_ok nmX10 hown hK hP hD hS 0 rfl rfl 0 (by decide) (hts _ (mx_bg 249 (by decide +kernel) (by decide +kernel))) (fun _ h9 => h9) rfl hin rfl (by decide +kernel) rfl rfl (Nat.le_of_ble_eq_true rfl) (by decide +kernel) (fun H locs hP hD hS => ?_)
  have hP : va_P D vwCl ((h0, .inr (10, [.ref q5, .null, .null, .null, .null, .null, .null, .null, .null, .null, .null, .null, .int 0])) :: (kW_X4 q5 asq5 csq5)) H := hP
  have hD : va_D A ((h0, .inr (10, [.ref q5, .null, .null, .null, .null, .null, .null, .null, .null, .null, .null, .null, .int 0])) :: (kW_X4 q5 asq5 csq5)) := hD
  refine lv_aload_n (k := 0) hx hb (by decide +kernel) rfl (lv_at hl 0 rfl) ?_
  refine va_new (ci := 8) (fs := [.null, .int 0]) (own := RX10) (C := RX8) (T := TX8) (N := 2) (index := 16) hx hb hts (k_in (ci := 8) rfl) tyX8 tyX8_ok hown (hts _ (mx_bg 81 (by decide +kernel) (by decide +kernel))) (hts _ (mx_bg 82 (by decide +kernel) (by decide +kernel))) (hts _ (mx_bg 31 (by decide +kernel) (by decide +kernel))) hK hP hD hS hA rfl (by decide) (Nat.le_of_ble_eq_true rfl) (Nat.le_of_ble_eq_true rfl) (by decide +kernel) (fun q16 H hP hD hS => ?_)
  have hP : va_P D vwCl (((h0, .inr (10, [.ref q5, .null, .null, .null, .null, .null, .null, .null, .null, .null, .null, .null, .int 0])) :: (kW_X4 q5 asq5 csq5)) ++ [(q16, .inr (8, [.null, .int 0]))]) H := hP
  have hD : va_D A (((h0, .inr (10, [.ref q5, .null, .null, .null, .null, .null, .null, .null, .null, .null, .null, .null, .int 0])) :: (kW_X4 q5 asq5 csq5)) ++ [(q16, .inr (8, [.null, .int 0]))]) := hD
  refine W.widen (k := 6) (n := 217) (Nat.le_of_ble_eq_true rfl) (Nat.le_of_ble_eq_true rfl) ?_
  refine lv_dup hx hb (by decide +kernel) rfl ?_
  have hPc := k_subP hP
  have hDc := k_subD hD
  have hKc := hK.sub (tys' := []) [] rfl
  have hFc := k_free hD hS hA
  refine va_callv (va_runI (index := 18) (As := []) (rest := [.ref q16, .ref h0]) ⟨hx, hb, hml, hown, hts⟩ (k_X8 l D q16 H.size) (cwI 0 hts (k_good (mx_bg 85 (by decide +kernel) (by decide +kernel))) rfl rfl rfl (hts _ (mx_bg 31 (by decide +kernel) (by decide +kernel))) (hts (.methodLink RX10 18 yX8_init) (mx_bg 83 (by decide +kernel) (by decide +kernel))) (hts _ (mx_bg 84 (by decide +kernel) (by decide +kernel))) rfl (by decide +kernel) ⟨(Nat.le_of_ble_eq_true rfl), (Nat.le_of_ble_eq_true rfl)⟩) ⟨k_blind, fun U hU hW => ⟨rfl, by rw [hU], by rw [hU]; exact hPc, va_K.moved hW.alike hKc, hDc.weaken (fun _ _ _ _ => trivial), hO1.moved hW.alike, hO2.moved hW.alike⟩⟩ rfl rfl hl.1 rfl (lv_room (Nat.le_of_ble_eq_true rfl)) (show decode cX10_init 20 = .ok (.invokespecial 18, 3) from by decide +kernel) ⟨(Nat.le_of_ble_eq_true rfl), (Nat.le_of_ble_eq_true rfl)⟩) hS (fun q _ h => hFc q h) hFc (fun u t H1 locs ht hvm hu hB hz1 hk1 hS => ?_)
  obtain ⟨asq16, csq16, hP1, hK1, hD1⟩ := hB
  rw [ht] at hP1
  have hK1 := va_K.moved hvm.symm hK1
  obtain ⟨hP, hD⟩ := k_join hP hD hk1 hFc hP1 hD1
  have hK := hK.app hK1
  generalize H1 = H at hP hS ⊢
  have hP : va_P D vwCl ((h0, .inr (10, [.ref q5, .null, .null, .null, .null, .null, .null, .null, .null, .null, .null, .null, .int 0])) :: (kW_X4 q5 asq5 csq5 ++ kW_X8 q16 asq16 csq16)) H := hP
  have hD : va_D A ((h0, .inr (10, [.ref q5, .null, .null, .null, .null, .null, .null, .null, .null, .null, .null, .null, .int 0])) :: (kW_X4 q5 asq5 csq5 ++ kW_X8 q16 asq16 csq16)) := hD
  have hK : va_K D vwCl ([] ++ kT_X4 csq5 ++ kT_X8 csq16) s := hK
  refine W.widen (k := 7) (n := 257) (Nat.le_of_ble_eq_true rfl) (Nat.le_of_ble_eq_true rfl) ?_
  refine va_putF (D := D) (cl := vwCl) (ci := 10) (v := .ref q16) (ty := .object "ConstrainedCoder$Word") (C := RX10) (T := TX10) (N := 13) (own := RX10) (ref := RX10) (index := 19) hx hb hts (k_in (ci := 10) rfl) tyX10 tyX10_ok nmX10 hown hK hP hD hS 0 rfl rfl 1 (by decide) (hts _ (mx_bg 250 (by decide +kernel) (by decide +kernel))) (fun _ h9 => h9) rfl hin rfl (by decide +kernel) rfl rfl (Nat.le_of_ble_eq_true rfl) (by decide +kernel) (fun H locs hP hD hS => ?_)
  have hP : va_P D vwCl ((h0, .inr (10, [.ref q5, .ref q16, .null, .null, .null, .null, .null, .null, .null, .null, .null, .null, .int 0])) :: (kW_X4 q5 asq5 csq5 ++ kW_X8 q16 asq16 csq16)) H := hP
  have hD : va_D A ((h0, .inr (10, [.ref q5, .ref q16, .null, .null, .null, .null, .null, .null, .null, .null, .null, .null, .int 0])) :: (kW_X4 q5 asq5 csq5 ++ kW_X8 q16 asq16 csq16)) := hD
  refine lv_aload_n (k := 0) hx hb (by decide +kernel) rfl (lv_at hl 0 rfl) ?_
  refine va_new (ci := 1) (fs := [.null, .int 0]) (own := RX10) (C := RX1) (T := TX1) (N := 2) (index := 23) hx hb hts (k_in (ci := 1) rfl) tyX1 tyX1_ok hown (hts _ (mx_bg 94 (by decide +kernel) (by decide +kernel))) (hts _ (mx_bg 95 (by decide +kernel) (by decide +kernel))) (hts _ (mx_bg 32 (by decide +kernel) (by decide +kernel))) hK hP hD hS hA rfl (by decide) (Nat.le_of_ble_eq_true rfl) (Nat.le_of_ble_eq_true rfl) (by decide +kernel) (fun q27 H hP hD hS => ?_)
  have hP : va_P D vwCl (((h0, .inr (10, [.ref q5, .ref q16, .null, .null, .null, .null, .null, .null, .null, .null, .null, .null, .int 0])) :: (kW_X4 q5 asq5 csq5 ++ kW_X8 q16 asq16 csq16)) ++ [(q27, .inr (1, [.null, .int 0]))]) H := hP
  have hD : va_D A (((h0, .inr (10, [.ref q5, .ref q16, .null, .null, .null, .null, .null, .null, .null, .null, .null, .null, .int 0])) :: (kW_X4 q5 asq5 csq5 ++ kW_X8 q16 asq16 csq16)) ++ [(q27, .inr (1, [.null, .int 0]))]) := hD
  refine W.widen (k := 8) (n := 259) (Nat.le_of_ble_eq_true rfl) (Nat.le_of_ble_eq_true rfl) ?_
  refine lv_dup hx hb (by decide +kernel) rfl ?_
  have hPc := k_subP hP
  have hDc := k_subD hD
  have hKc := hK.sub (tys' := []) [] rfl
  have hFc := k_free hD hS hA
  refine va_callv (va_runI (index := 25) (As := []) (rest := [.ref q27, .ref h0]) ⟨hx, hb, hml, hown, hts⟩ (k_X1 l D q27 H.size) (cwI 0 hts (k_good (mx_bg 98 (by decide +kernel) (by decide +kernel))) rfl rfl rfl (hts _ (mx_bg 32 (by decide +kernel) (by decide +kernel))) (hts (.methodLink RX10 25 yX1_init) (mx_bg 96 (by decide +kernel) (by decide +kernel))) (hts _ (mx_bg 97 (by decide +kernel) (by decide +kernel))) rfl (by decide +kernel) ⟨(Nat.le_of_ble_eq_true rfl), (Nat.le_of_ble_eq_true rfl)⟩) ⟨k_blind, fun U hU hW => ⟨rfl, by rw [hU], by rw [hU]; exact hPc, va_K.moved hW.alike hKc, hDc.weaken (fun _ _ _ _ => trivial), hO1.moved hW.alike, hO2.moved hW.alike⟩⟩ rfl rfl hl.1 rfl (lv_room (Nat.le_of_ble_eq_true rfl)) (show decode cX10_init 31 = .ok (.invokespecial 25, 3) from by decide +kernel) ⟨(Nat.le_of_ble_eq_true rfl), (Nat.le_of_ble_eq_true rfl)⟩) hS (fun q _ h => hFc q h) hFc (fun u t H1 locs ht hvm hu hB hz1 hk1 hS => ?_)
  obtain ⟨asq27, csq27, hP1, hK1, hD1⟩ := hB
  rw [ht] at hP1
  have hK1 := va_K.moved hvm.symm hK1
  obtain ⟨hP, hD⟩ := k_join hP hD hk1 hFc hP1 hD1
  have hK := hK.app hK1
  generalize H1 = H at hP hS ⊢
  have hP : va_P D vwCl ((h0, .inr (10, [.ref q5, .ref q16, .null, .null, .null, .null, .null, .null, .null, .null, .null, .null, .int 0])) :: (kW_X4 q5 asq5 csq5 ++ kW_X8 q16 asq16 csq16 ++ kW_X1 q27 asq27 csq27)) H := hP
  have hD : va_D A ((h0, .inr (10, [.ref q5, .ref q16, .null, .null, .null, .null, .null, .null, .null, .null, .null, .null, .int 0])) :: (kW_X4 q5 asq5 csq5 ++ kW_X8 q16 asq16 csq16 ++ kW_X1 q27 asq27 csq27)) := hD
  have hK : va_K D vwCl ([] ++ kT_X4 csq5 ++ kT_X8 csq16 ++ kT_X1 csq27) s := hK
  refine W.widen (k := 9) (n := 279) (Nat.le_of_ble_eq_true rfl) (Nat.le_of_ble_eq_true rfl) ?_
  refine va_putF (D := D) (cl := vwCl) (ci := 10) (v := .ref q27) (ty := .object "ConstrainedCoder$ConstraintText") (C := RX10) (T := TX10) (N := 13) (own := RX10) (ref := RX10) (index := 26) hx hb hts (k_in (ci := 10) rfl) tyX10 tyX10_ok nmX10 hown hK hP hD hS 0 rfl rfl 2 (by decide) (hts _ (mx_bg 251 (by decide +kernel) (by decide +kernel))) (fun _ h9 => h9) rfl hin rfl (by decide +kernel) rfl rfl (Nat.le_of_ble_eq_true rfl) (by decide +kernel) (fun H locs hP hD hS => ?_)
  have hP : va_P D vwCl ((h0, .inr (10, [.ref q5, .ref q16, .ref q27, .null, .null, .null, .null, .null, .null, .null, .null, .null, .int 0])) :: (kW_X4 q5 asq5 csq5 ++ kW_X8 q16 asq16 csq16 ++ kW_X1 q27 asq27 csq27)) H := hP
  have hD : va_D A ((h0, .inr (10, [.ref q5, .ref q16, .ref q27, .null, .null, .null, .null, .null, .null, .null, .null, .null, .int 0])) :: (kW_X4 q5 asq5 csq5 ++ kW_X8 q16 asq16 csq16 ++ kW_X1 q27 asq27 csq27)) := hD
  refine lv_aload_n (k := 0) hx hb (by decide +kernel) rfl (lv_at hl 0 rfl) ?_
  refine va_new (ci := 6) (fs := [.null, .null, .null, .null, .null, .null, .null, .int 0, .int 0]) (own := RX10) (C := RX6) (T := TX6) (N := 9) (index := 30) hx hb hts (k_in (ci := 6) rfl) tyX6 tyX6_ok hown (hts _ (mx_bg 107 (by decide +kernel) (by decide +kernel))) (hts _ (mx_bg 108 (by decide +kernel) (by decide +kernel))) (hts _ (mx_bg 33 (by decide +kernel) (by decide +kernel))) hK hP hD hS hA rfl (by decide) (Nat.le_of_ble_eq_true rfl) (Nat.le_of_ble_eq_true rfl) (by decide +kernel) (fun q38 H hP hD hS => ?_)
  have hP : va_P D vwCl (((h0, .inr (10, [.ref q5, .ref q16, .ref q27, .null, .null, .null, .null, .null, .null, .null, .null, .null, .int 0])) :: (kW_X4 q5 asq5 csq5 ++ kW_X8 q16 asq16 csq16 ++ kW_X1 q27 asq27 csq27)) ++ [(q38, .inr (6, [.null, .null, .null, .null, .null, .null, .null, .int 0, .int 0]))]) H := hP
  have hD : va_D A (((h0, .inr (10, [.ref q5, .ref q16, .ref q27, .null, .null, .null, .null, .null, .null, .null, .null, .null, .int 0])) :: (kW_X4 q5 asq5 csq5 ++ kW_X8 q16 asq16 csq16 ++ kW_X1 q27 asq27 csq27)) ++ [(q38, .inr (6, [.null, .null, .null, .null, .null, .null, .null, .int 0, .int 0]))]) := hD
  refine W.widen (k := 10) (n := 288) (Nat.le_of_ble_eq_true rfl) (Nat.le_of_ble_eq_true rfl) ?_
  refine lv_dup hx hb (by decide +kernel) rfl ?_
  have hPc := k_subP hP
  have hDc := k_subD hD
  have hKc := hK.sub (tys' := []) [] rfl
  have hFc := k_free hD hS hA
  refine va_callv (va_runI (index := 32) (As := []) (rest := [.ref q38, .ref h0]) ⟨hx, hb, hml, hown, hts⟩ (k_X6 l D q38 H.size) (cwI 0 hts (k_good (mx_bg 111 (by decide +kernel) (by decide +kernel))) rfl rfl rfl (hts _ (mx_bg 33 (by decide +kernel) (by decide +kernel))) (hts (.methodLink RX10 32 yX6_init) (mx_bg 109 (by decide +kernel) (by decide +kernel))) (hts _ (mx_bg 110 (by decide +kernel) (by decide +kernel))) rfl (by decide +kernel) ⟨(Nat.le_of_ble_eq_true rfl), (Nat.le_of_ble_eq_true rfl)⟩) ⟨k_blind, fun U hU hW => ⟨rfl, by rw [hU], by rw [hU]; exact hPc, va_K.moved hW.alike hKc, hDc.weaken (fun _ _ _ _ => trivial), hO1.moved hW.alike, hO2.moved hW.alike⟩⟩ rfl rfl hl.1 rfl (lv_room (Nat.le_of_ble_eq_true rfl)) (show decode cX10_init 42 = .ok (.invokespecial 32, 3) from by decide +kernel) ⟨(Nat.le_of_ble_eq_true rfl), (Nat.le_of_ble_eq_true rfl)⟩) hS (fun q _ h => hFc q h) hFc (fun u t H1 locs ht hvm hu hB hz1 hk1 hS => ?_)
  obtain ⟨asq38, csq38, hP1, hK1, hD1⟩ := hB
  rw [ht] at hP1
  have hK1 := va_K.moved hvm.symm hK1
  obtain ⟨hP, hD⟩ := k_join hP hD hk1 hFc hP1 hD1
  have hK := hK.app hK1
  generalize H1 = H at hP hS ⊢
  have hP : va_P D vwCl ((h0, .inr (10, [.ref q5, .ref q16, .ref q27, .null, .null, .null, .null, .null, .null, .null, .null, .null, .int 0])) :: (kW_X4 q5 asq5 csq5 ++ kW_X8 q16 asq16 csq16 ++ kW_X1 q27 asq27 csq27 ++ kW_X6 q38 asq38 csq38)) H := hP
  have hD : va_D A ((h0, .inr (10, [.ref q5, .ref q16, .ref q27, .null, .null, .null, .null, .null, .null, .null, .null, .null, .int 0])) :: (kW_X4 q5 asq5 csq5 ++ kW_X8 q16 asq16 csq16 ++ kW_X1 q27 asq27 csq27 ++ kW_X6 q38 asq38 csq38)) := hD
  have hK : va_K D vwCl ([] ++ kT_X4 csq5 ++ kT_X8 csq16 ++ kT_X1 csq27 ++ kT_X6 csq38) s := hK
  refine W.widen (k := 22) (n := 757) (Nat.le_of_ble_eq_true rfl) (Nat.le_of_ble_eq_true rfl) ?_
  refine va_putF (D := D) (cl := vwCl) (ci := 10) (v := .ref q38) (ty := .object "ConstrainedCoder$PowerBuilder") (C := RX10) (T := TX10) (N := 13) (own := RX10) (ref := RX10) (index := 33) hx hb hts (k_in (ci := 10) rfl) tyX10 tyX10_ok nmX10 hown hK hP hD hS 0 rfl rfl 3 (by decide) (hts _ (mx_bg 252 (by decide +kernel) (by decide +kernel))) (fun _ h9 => h9) rfl hin rfl (by decide +kernel) rfl rfl (Nat.le_of_ble_eq_true rfl) (by decide +kernel) (fun H locs hP hD hS => ?_)
  have hP : va_P D vwCl ((h0, .inr (10, [.ref q5, .ref q16, .ref q27, .ref q38, .null, .null, .null, .null, .null, .null, .null, .null, .int 0])) :: (kW_X4 q5 asq5 csq5 ++ kW_X8 q16 asq16 csq16 ++ kW_X1 q27 asq27 csq27 ++ kW_X6 q38 asq38 csq38)) H := hP
  have hD : va_D A ((h0, .inr (10, [.ref q5, .ref q16, .ref q27, .ref q38, .null, .null, .null, .null, .null, .null, .null, .null, .int 0])) :: (kW_X4 q5 asq5 csq5 ++ kW_X8 q16 asq16 csq16 ++ kW_X1 q27 asq27 csq27 ++ kW_X6 q38 asq38 csq38)) := hD
  refine lv_aload_n (k := 0) hx hb (by decide +kernel) rfl (lv_at hl 0 rfl) ?_
  refine va_new (ci := 9) (fs := [.null, .int 0]) (own := RX10) (C := RX9) (T := TX9) (N := 2) (index := 37) hx hb hts (k_in (ci := 9) rfl) tyX9 tyX9_ok hown (hts _ (mx_bg 143 (by decide +kernel) (by decide +kernel))) (hts _ (mx_bg 144 (by decide +kernel) (by decide +kernel))) (hts _ (mx_bg 34 (by decide +kernel) (by decide +kernel))) hK hP hD hS hA rfl (by decide) (Nat.le_of_ble_eq_true rfl) (Nat.le_of_ble_eq_true rfl) (by decide +kernel) (fun q49 H hP hD hS => ?_)
  have hP : va_P D vwCl (((h0, .inr (10, [.ref q5, .ref q16, .ref q27, .ref q38, .null, .null, .null, .null, .null, .null, .null, .null, .int 0])) :: (kW_X4 q5 asq5 csq5 ++ kW_X8 q16 asq16 csq16 ++ kW_X1 q27 asq27 csq27 ++ kW_X6 q38 asq38 csq38)) ++ [(q49, .inr (9, [.null, .int 0]))]) H := hP
  have hD : va_D A (((h0, .inr (10, [.ref q5, .ref q16, .ref q27, .ref q38, .null, .null, .null, .null, .null, .null, .null, .null, .int 0])) :: (kW_X4 q5 asq5 csq5 ++ kW_X8 q16 asq16 csq16 ++ kW_X1 q27 asq27 csq27 ++ kW_X6 q38 asq38 csq38)) ++ [(q49, .inr (9, [.null, .int 0]))]) := hD
  refine W.widen (k := 23) (n := 759) (Nat.le_of_ble_eq_true rfl) (Nat.le_of_ble_eq_true rfl) ?_
  refine lv_dup hx hb (by decide +kernel) rfl ?_
  have hPc := k_subP hP
  have hDc := k_subD hD
  have hKc := hK.sub (tys' := []) [] rfl
  have hFc := k_free hD hS hA
  refine va_callv (va_runI (index := 39) (As := []) (rest := [.ref q49, .ref h0]) ⟨hx, hb, hml, hown, hts⟩ (k_X9 l D q49 H.size) (cwI 0 hts (k_good (mx_bg 147 (by decide +kernel) (by decide +kernel))) rfl rfl rfl (hts _ (mx_bg 34 (by decide +kernel) (by decide +kernel))) (hts (.methodLink RX10 39 yX9_init) (mx_bg 145 (by decide +kernel) (by decide +kernel))) (hts _ (mx_bg 146 (by decide +kernel) (by decide +kernel))) rfl (by decide +kernel) ⟨(Nat.le_of_ble_eq_true rfl), (Nat.le_of_ble_eq_true rfl)⟩) ⟨k_blind, fun U hU hW => ⟨rfl, by rw [hU], by rw [hU]; exact hPc, va_K.moved hW.alike hKc, hDc.weaken (fun _ _ _ _ => trivial), hO1.moved hW.alike, hO2.moved hW.alike⟩⟩ rfl rfl hl.1 rfl (lv_room (Nat.le_of_ble_eq_true rfl)) (show decode cX10_init 53 = .ok (.invokespecial 39, 3) from by decide +kernel) ⟨(Nat.le_of_ble_eq_true rfl), (Nat.le_of_ble_eq_true rfl)⟩) hS (fun q _ h => hFc q h) hFc (fun u t H1 locs ht hvm hu hB hz1 hk1 hS => ?_)
  obtain ⟨asq49, csq49, hP1, hK1, hD1⟩ := hB
  rw [ht] at hP1
  have hK1 := va_K.moved hvm.symm hK1
  obtain ⟨hP, hD⟩ := k_join hP hD hk1 hFc hP1 hD1
  have hK := hK.app hK1
  generalize H1 = H at hP hS ⊢
  have hP : va_P D vwCl ((h0, .inr (10, [.ref q5, .ref q16, .ref q27, .ref q38, .null, .null, .null, .null, .null, .null, .null, .null, .int 0])) :: (kW_X4 q5 asq5 csq5 ++ kW_X8 q16 asq16 csq16 ++ kW_X1 q27 asq27 csq27 ++ kW_X6 q38 asq38 csq38 ++ kW_X9 q49 asq49 csq49)) H := hP
  have hD : va_D A ((h0, .inr (10, [.ref q5, .ref q16, .ref q27, .ref q38, .null, .null, .null, .null, .null, .null, .null, .null, .int 0])) :: (kW_X4 q5 asq5 csq5 ++ kW_X8 q16 asq16 csq16 ++ kW_X1 q27 asq27 csq27 ++ kW_X6 q38 asq38 csq38 ++ kW_X9 q49 asq49 csq49)) := hD
  have hK : va_K D vwCl ([] ++ kT_X4 csq5 ++ kT_X8 csq16 ++ kT_X1 csq27 ++ kT_X6 csq38 ++ kT_X9 csq49) s := hK
  refine W.widen (k := 35) (n := 7986) (Nat.le_of_ble_eq_true rfl) (Nat.le_of_ble_eq_true rfl) ?_
  refine va_putF (D := D) (cl := vwCl) (ci := 10) (v := .ref q49) (ty := .object "ConstrainedCoder$WordCounter") (C := RX10) (T := TX10) (N := 13) (own := RX10) (ref := RX10) (index := 40) hx hb hts (k_in (ci := 10) rfl) tyX10 tyX10_ok nmX10 hown hK hP hD hS 0 rfl rfl 4 (by decide) (hts _ (mx_bg 253 (by decide +kernel) (by decide +kernel))) (fun _ h9 => h9) rfl hin rfl (by decide +kernel) rfl rfl (Nat.le_of_ble_eq_true rfl) (by decide +kernel) (fun H locs hP hD hS => ?_)
  have hP : va_P D vwCl ((h0, .inr (10, [.ref q5, .ref q16, .ref q27, .ref q38, .ref q49, .null, .null, .null, .null, .null, .null, .null, .int 0])) :: (kW_X4 q5 asq5 csq5 ++ kW_X8 q16 asq16 csq16 ++ kW_X1 q27 asq27 csq27 ++ kW_X6 q38 asq38 csq38 ++ kW_X9 q49 asq49 csq49)) H := hP
  have hD : va_D A ((h0, .inr (10, [.ref q5, .ref q16, .ref q27, .ref q38, .ref q49, .null, .null, .null, .null, .null, .null, .null, .int 0])) :: (kW_X4 q5 asq5 csq5 ++ kW_X8 q16 asq16 csq16 ++ kW_X1 q27 asq27 csq27 ++ kW_X6 q38 asq38 csq38 ++ kW_X9 q49 asq49 csq49)) := hD
  refine lv_aload_n (k := 0) hx hb (by decide +kernel) rfl (lv_at hl 0 rfl) ?_
  refine va_new (ci := 5) (fs := [.null, .null]) (own := RX10) (C := RX5) (T := TX5) (N := 2) (index := 44) hx hb hts (k_in (ci := 5) rfl) tyX5 tyX5_ok hown (hts _ (mx_bg 159 (by decide +kernel) (by decide +kernel))) (hts _ (mx_bg 160 (by decide +kernel) (by decide +kernel))) (hts _ (mx_bg 35 (by decide +kernel) (by decide +kernel))) hK hP hD hS hA rfl (by decide) (Nat.le_of_ble_eq_true rfl) (Nat.le_of_ble_eq_true rfl) (by decide +kernel) (fun q60 H hP hD hS => ?_)
  have hP : va_P D vwCl (((h0, .inr (10, [.ref q5, .ref q16, .ref q27, .ref q38, .ref q49, .null, .null, .null, .null, .null, .null, .null, .int 0])) :: (kW_X4 q5 asq5 csq5 ++ kW_X8 q16 asq16 csq16 ++ kW_X1 q27 asq27 csq27 ++ kW_X6 q38 asq38 csq38 ++ kW_X9 q49 asq49 csq49)) ++ [(q60, .inr (5, [.null, .null]))]) H := hP
  have hD : va_D A (((h0, .inr (10, [.ref q5, .ref q16, .ref q27, .ref q38, .ref q49, .null, .null, .null, .null, .null, .null, .null, .int 0])) :: (kW_X4 q5 asq5 csq5 ++ kW_X8 q16 asq16 csq16 ++ kW_X1 q27 asq27 csq27 ++ kW_X6 q38 asq38 csq38 ++ kW_X9 q49 asq49 csq49)) ++ [(q60, .inr (5, [.null, .null]))]) := hD
  refine W.widen (k := 36) (n := 7988) (Nat.le_of_ble_eq_true rfl) (Nat.le_of_ble_eq_true rfl) ?_
  refine lv_dup hx hb (by decide +kernel) rfl ?_
  have hPc := k_subP hP
  have hDc := k_subD hD
  have hKc := hK.sub (tys' := []) [] rfl
  have hFc := k_free hD hS hA
  refine va_callv (va_runI (index := 46) (As := []) (rest := [.ref q60, .ref h0]) ⟨hx, hb, hml, hown, hts⟩ (k_X5 l D q60 H.size) (cwI 0 hts (k_good (mx_bg 163 (by decide +kernel) (by decide +kernel))) rfl rfl rfl (hts _ (mx_bg 35 (by decide +kernel) (by decide +kernel))) (hts (.methodLink RX10 46 yX5_init) (mx_bg 161 (by decide +kernel) (by decide +kernel))) (hts _ (mx_bg 162 (by decide +kernel) (by decide +kernel))) rfl (by decide +kernel) ⟨(Nat.le_of_ble_eq_true rfl), (Nat.le_of_ble_eq_true rfl)⟩) ⟨k_blind, fun U hU hW => ⟨rfl, by rw [hU], by rw [hU]; exact hPc, va_K.moved hW.alike hKc, hDc.weaken (fun _ _ _ _ => trivial), hO1.moved hW.alike, hO2.moved hW.alike⟩⟩ rfl rfl hl.1 rfl (lv_room (Nat.le_of_ble_eq_true rfl)) (show decode cX10_init 64 = .ok (.invokespecial 46, 3) from by decide +kernel) ⟨(Nat.le_of_ble_eq_true rfl), (Nat.le_of_ble_eq_true rfl)⟩) hS (fun q _ h => hFc q h) hFc (fun u t H1 locs ht hvm hu hB hz1 hk1 hS => ?_)
  obtain ⟨asq60, csq60, hP1, hK1, hD1⟩ := hB
  rw [ht] at hP1
  have hK1 := va_K.moved hvm.symm hK1
  obtain ⟨hP, hD⟩ := k_join hP hD hk1 hFc hP1 hD1
  have hK := hK.app hK1
  generalize H1 = H at hP hS ⊢
  have hP : va_P D vwCl ((h0, .inr (10, [.ref q5, .ref q16, .ref q27, .ref q38, .ref q49, .null, .null, .null, .null, .null, .null, .null, .int 0])) :: (kW_X4 q5 asq5 csq5 ++ kW_X8 q16 asq16 csq16 ++ kW_X1 q27 asq27 csq27 ++ kW_X6 q38 asq38 csq38 ++ kW_X9 q49 asq49 csq49 ++ kW_X5 q60 asq60 csq60)) H := hP
  have hD : va_D A ((h0, .inr (10, [.ref q5, .ref q16, .ref q27, .ref q38, .ref q49, .null, .null, .null, .null, .null, .null, .null, .int 0])) :: (kW_X4 q5 asq5 csq5 ++ kW_X8 q16 asq16 csq16 ++ kW_X1 q27 asq27 csq27 ++ kW_X6 q38 asq38 csq38 ++ kW_X9 q49 asq49 csq49 ++ kW_X5 q60 asq60 csq60)) := hD
  have hK : va_K D vwCl ([] ++ kT_X4 csq5 ++ kT_X8 csq16 ++ kT_X1 csq27 ++ kT_X6 csq38 ++ kT_X9 csq49 ++ kT_X5 csq60) s := hK
  refine W.widen (k := 38) (n := 8020) (Nat.le_of_ble_eq_true rfl) (Nat.le_of_ble_eq_true rfl) ?_
  refine va_putF (D := D) (cl := vwCl) (ci := 10) (v := .ref q60) (ty := .object "ConstrainedCoder$GrowthEstimator") (C := RX10) (T := TX10) (N := 13) (own := RX10) (ref := RX10) (index := 47) hx hb hts (k_in (ci := 10) rfl) tyX10 tyX10_ok nmX10 hown hK hP hD hS 0 rfl rfl 5 (by decide) (hts _ (mx_bg 254 (by decide +kernel) (by decide +kernel))) (fun _ h9 => h9) rfl hin rfl (by decide +kernel) rfl rfl (Nat.le_of_ble_eq_true rfl) (by decide +kernel) (fun H locs hP hD hS => ?_)
  have hP : va_P D vwCl ((h0, .inr (10, [.ref q5, .ref q16, .ref q27, .ref q38, .ref q49, .ref q60, .null, .null, .null, .null, .null, .null, .int 0])) :: (kW_X4 q5 asq5 csq5 ++ kW_X8 q16 asq16 csq16 ++ kW_X1 q27 asq27 csq27 ++ kW_X6 q38 asq38 csq38 ++ kW_X9 q49 asq49 csq49 ++ kW_X5 q60 asq60 csq60)) H := hP
  have hD : va_D A ((h0, .inr (10, [.ref q5, .ref q16, .ref q27, .ref q38, .ref q49, .ref q60, .null, .null, .null, .null, .null, .null, .int 0])) :: (kW_X4 q5 asq5 csq5 ++ kW_X8 q16 asq16 csq16 ++ kW_X1 q27 asq27 csq27 ++ kW_X6 q38 asq38 csq38 ++ kW_X9 q49 asq49 csq49 ++ kW_X5 q60 asq60 csq60)) := hD
  refine lv_aload_n (k := 0) hx hb (by decide +kernel) rfl (lv_at hl 0 rfl) ?_
  refine va_new (ci := 2) (fs := [.null, .null, .null]) (own := RX10) (C := RX2) (T := TX2) (N := 3) (index := 51) hx hb hts (k_in (ci := 2) rfl) tyX2 tyX2_ok hown (hts _ (mx_bg 173 (by decide +kernel) (by decide +kernel))) (hts _ (mx_bg 174 (by decide +kernel) (by decide +kernel))) (hts _ (mx_bg 36 (by decide +kernel) (by decide +kernel))) hK hP hD hS hA rfl (by decide) (Nat.le_of_ble_eq_true rfl) (Nat.le_of_ble_eq_true rfl) (by decide +kernel) (fun q71 H hP hD hS => ?_)
  have hP : va_P D vwCl (((h0, .inr (10, [.ref q5, .ref q16, .ref q27, .ref q38, .ref q49, .ref q60, .null, .null, .null, .null, .null, .null, .int 0])) :: (kW_X4 q5 asq5 csq5 ++ kW_X8 q16 asq16 csq16 ++ kW_X1 q27 asq27 csq27 ++ kW_X6 q38 asq38 csq38 ++ kW_X9 q49 asq49 csq49 ++ kW_X5 q60 asq60 csq60)) ++ [(q71, .inr (2, [.null, .null, .null]))]) H := hP
  have hD : va_D A (((h0, .inr (10, [.ref q5, .ref q16, .ref q27, .ref q38, .ref q49, .ref q60, .null, .null, .null, .null, .null, .null, .int 0])) :: (kW_X4 q5 asq5 csq5 ++ kW_X8 q16 asq16 csq16 ++ kW_X1 q27 asq27 csq27 ++ kW_X6 q38 asq38 csq38 ++ kW_X9 q49 asq49 csq49 ++ kW_X5 q60 asq60 csq60)) ++ [(q71, .inr (2, [.null, .null, .null]))]) := hD
  refine W.widen (k := 39) (n := 8023) (Nat.le_of_ble_eq_true rfl) (Nat.le_of_ble_eq_true rfl) ?_
  refine lv_dup hx hb (by decide +kernel) rfl ?_
  have hPc := k_subP hP
  have hDc := k_subD hD
  have hKc := hK.sub (tys' := []) [] rfl
  have hFc := k_free hD hS hA
  refine va_callv (va_runI (index := 53) (As := []) (rest := [.ref q71, .ref h0]) ⟨hx, hb, hml, hown, hts⟩ (k_X2 l D q71 H.size) (cwI 0 hts (k_good (mx_bg 177 (by decide +kernel) (by decide +kernel))) rfl rfl rfl (hts _ (mx_bg 36 (by decide +kernel) (by decide +kernel))) (hts (.methodLink RX10 53 yX2_init) (mx_bg 175 (by decide +kernel) (by decide +kernel))) (hts _ (mx_bg 176 (by decide +kernel) (by decide +kernel))) rfl (by decide +kernel) ⟨(Nat.le_of_ble_eq_true rfl), (Nat.le_of_ble_eq_true rfl)⟩) ⟨k_blind, fun U hU hW => ⟨rfl, by rw [hU], by rw [hU]; exact hPc, va_K.moved hW.alike hKc, hDc.weaken (fun _ _ _ _ => trivial), hO1.moved hW.alike, hO2.moved hW.alike⟩⟩ rfl rfl hl.1 rfl (lv_room (Nat.le_of_ble_eq_true rfl)) (show decode cX10_init 75 = .ok (.invokespecial 53, 3) from by decide +kernel) ⟨(Nat.le_of_ble_eq_true rfl), (Nat.le_of_ble_eq_true rfl)⟩) hS (fun q _ h => hFc q h) hFc (fun u t H1 locs ht hvm hu hB hz1 hk1 hS => ?_)
  obtain ⟨asq71, csq71, hP1, hK1, hD1⟩ := hB
  rw [ht] at hP1
  have hK1 := va_K.moved hvm.symm hK1
  obtain ⟨hP, hD⟩ := k_join hP hD hk1 hFc hP1 hD1
  have hK := hK.app hK1
  generalize H1 = H at hP hS ⊢
  have hP : va_P D vwCl ((h0, .inr (10, [.ref q5, .ref q16, .ref q27, .ref q38, .ref q49, .ref q60, .null, .null, .null, .null, .null, .null, .int 0])) :: (kW_X4 q5 asq5 csq5 ++ kW_X8 q16 asq16 csq16 ++ kW_X1 q27 asq27 csq27 ++ kW_X6 q38 asq38 csq38 ++ kW_X9 q49 asq49 csq49 ++ kW_X5 q60 asq60 csq60 ++ kW_X2 q71 asq71 csq71)) H := hP
  have hD : va_D A ((h0, .inr (10, [.ref q5, .ref q16, .ref q27, .ref q38, .ref q49, .ref q60, .null, .null, .null, .null, .null, .null, .int 0])) :: (kW_X4 q5 asq5 csq5 ++ kW_X8 q16 asq16 csq16 ++ kW_X1 q27 asq27 csq27 ++ kW_X6 q38 asq38 csq38 ++ kW_X9 q49 asq49 csq49 ++ kW_X5 q60 asq60 csq60 ++ kW_X2 q71 asq71 csq71)) := hD
  have hK : va_K D vwCl ([] ++ kT_X4 csq5 ++ kT_X8 csq16 ++ kT_X1 csq27 ++ kT_X6 csq38 ++ kT_X9 csq49 ++ kT_X5 csq60 ++ kT_X2 csq71) s := hK
  refine W.widen (k := 47) (n := 8129) (Nat.le_of_ble_eq_true rfl) (Nat.le_of_ble_eq_true rfl) ?_
  refine va_putF (D := D) (cl := vwCl) (ci := 10) (v := .ref q71) (ty := .object "ConstrainedCoder$EigenvectorFinder") (C := RX10) (T := TX10) (N := 13) (own := RX10) (ref := RX10) (index := 54) hx hb hts (k_in (ci := 10) rfl) tyX10 tyX10_ok nmX10 hown hK hP hD hS 0 rfl rfl 6 (by decide) (hts _ (mx_bg 255 (by decide +kernel) (by decide +kernel))) (fun _ h9 => h9) rfl hin rfl (by decide +kernel) rfl rfl (Nat.le_of_ble_eq_true rfl) (by decide +kernel) (fun H locs hP hD hS => ?_)
  have hP : va_P D vwCl ((h0, .inr (10, [.ref q5, .ref q16, .ref q27, .ref q38, .ref q49, .ref q60, .ref q71, .null, .null, .null, .null, .null, .int 0])) :: (kW_X4 q5 asq5 csq5 ++ kW_X8 q16 asq16 csq16 ++ kW_X1 q27 asq27 csq27 ++ kW_X6 q38 asq38 csq38 ++ kW_X9 q49 asq49 csq49 ++ kW_X5 q60 asq60 csq60 ++ kW_X2 q71 asq71 csq71)) H := hP
  have hD : va_D A ((h0, .inr (10, [.ref q5, .ref q16, .ref q27, .ref q38, .ref q49, .ref q60, .ref q71, .null, .null, .null, .null, .null, .int 0])) :: (kW_X4 q5 asq5 csq5 ++ kW_X8 q16 asq16 csq16 ++ kW_X1 q27 asq27 csq27 ++ kW_X6 q38 asq38 csq38 ++ kW_X9 q49 asq49 csq49 ++ kW_X5 q60 asq60 csq60 ++ kW_X2 q71 asq71 csq71)) := hD
  refine lv_aload_n (k := 0) hx hb (by decide +kernel) rfl (lv_at hl 0 rfl) ?_
  refine va_new (ci := 3) (fs := [.null, .null, .null, .int 0, .int 0, .int 0, .int 0]) (own := RX10) (C := RX3) (T := TX3) (N := 7) (index := 58) hx hb hts (k_in (ci := 3) rfl) tyX3 tyX3_ok hown (hts _ (mx_bg 190 (by decide +kernel) (by decide +kernel))) (hts _ (mx_bg 191 (by decide +kernel) (by decide +kernel))) (hts _ (mx_bg 37 (by decide +kernel) (by decide +kernel))) hK hP hD hS hA rfl (by decide) (Nat.le_of_ble_eq_true rfl) (Nat.le_of_ble_eq_true rfl) (by decide +kernel) (fun q82 H hP hD hS => ?_)
  have hP : va_P D vwCl (((h0, .inr (10, [.ref q5, .ref q16, .ref q27, .ref q38, .ref q49, .ref q60, .ref q71, .null, .null, .null, .null, .null, .int 0])) :: (kW_X4 q5 asq5 csq5 ++ kW_X8 q16 asq16 csq16 ++ kW_X1 q27 asq27 csq27 ++ kW_X6 q38 asq38 csq38 ++ kW_X9 q49 asq49 csq49 ++ kW_X5 q60 asq60 csq60 ++ kW_X2 q71 asq71 csq71)) ++ [(q82, .inr (3, [.null, .null, .null, .int 0, .int 0, .int 0, .int 0]))]) H := hP
  have hD : va_D A (((h0, .inr (10, [.ref q5, .ref q16, .ref q27, .ref q38, .ref q49, .ref q60, .ref q71, .null, .null, .null, .null, .null, .int 0])) :: (kW_X4 q5 asq5 csq5 ++ kW_X8 q16 asq16 csq16 ++ kW_X1 q27 asq27 csq27 ++ kW_X6 q38 asq38 csq38 ++ kW_X9 q49 asq49 csq49 ++ kW_X5 q60 asq60 csq60 ++ kW_X2 q71 asq71 csq71)) ++ [(q82, .inr (3, [.null, .null, .null, .int 0, .int 0, .int 0, .int 0]))]) := hD
  refine W.widen (k := 48) (n := 8136) (Nat.le_of_ble_eq_true rfl) (Nat.le_of_ble_eq_true rfl) ?_
  refine lv_dup hx hb (by decide +kernel) rfl ?_
  have hPc := k_subP hP
  have hDc := k_subD hD
  have hKc := hK.sub (tys' := []) [] rfl
  have hFc := k_free hD hS hA
  refine va_callv (va_runI (index := 60) (As := []) (rest := [.ref q82, .ref h0]) ⟨hx, hb, hml, hown, hts⟩ (k_X3 l D q82 H.size) (cwI 0 hts (k_good (mx_bg 194 (by decide +kernel) (by decide +kernel))) rfl rfl rfl (hts _ (mx_bg 37 (by decide +kernel) (by decide +kernel))) (hts (.methodLink RX10 60 yX3_init) (mx_bg 192 (by decide +kernel) (by decide +kernel))) (hts _ (mx_bg 193 (by decide +kernel) (by decide +kernel))) rfl (by decide +kernel) ⟨(Nat.le_of_ble_eq_true rfl), (Nat.le_of_ble_eq_true rfl)⟩) ⟨k_blind, fun U hU hW => ⟨rfl, by rw [hU], by rw [hU]; exact hPc, va_K.moved hW.alike hKc, hDc.weaken (fun _ _ _ _ => trivial), hO1.moved hW.alike, hO2.moved hW.alike⟩⟩ rfl rfl hl.1 rfl (lv_room (Nat.le_of_ble_eq_true rfl)) (show decode cX10_init 86 = .ok (.invokespecial 60, 3) from by decide +kernel) ⟨(Nat.le_of_ble_eq_true rfl), (Nat.le_of_ble_eq_true rfl)⟩) hS (fun q _ h => hFc q h) hFc (fun u t H1 locs ht hvm hu hB hz1 hk1 hS => ?_)
  obtain ⟨asq82, csq82, hP1, hK1, hD1⟩ := hB
  rw [ht] at hP1
  have hK1 := va_K.moved hvm.symm hK1
  obtain ⟨hP, hD⟩ := k_join hP hD hk1 hFc hP1 hD1
  have hK := hK.app hK1
  generalize H1 = H at hP hS ⊢
  have hP : va_P D vwCl ((h0, .inr (10, [.ref q5, .ref q16, .ref q27, .ref q38, .ref q49, .ref q60, .ref q71, .null, .null, .null, .null, .null, .int 0])) :: (kW_X4 q5 asq5 csq5 ++ kW_X8 q16 asq16 csq16 ++ kW_X1 q27 asq27 csq27 ++ kW_X6 q38 asq38 csq38 ++ kW_X9 q49 asq49 csq49 ++ kW_X5 q60 asq60 csq60 ++ kW_X2 q71 asq71 csq71 ++ kW_X3 q82 asq82 csq82)) H := hP
  have hD : va_D A ((h0, .inr (10, [.ref q5, .ref q16, .ref q27, .ref q38, .ref q49, .ref q60, .ref q71, .null, .null, .null, .null, .null, .int 0])) :: (kW_X4 q5 asq5 csq5 ++ kW_X8 q16 asq16 csq16 ++ kW_X1 q27 asq27 csq27 ++ kW_X6 q38 asq38 csq38 ++ kW_X9 q49 asq49 csq49 ++ kW_X5 q60 asq60 csq60 ++ kW_X2 q71 asq71 csq71 ++ kW_X3 q82 asq82 csq82)) := hD
  have hK : va_K D vwCl ([] ++ kT_X4 csq5 ++ kT_X8 csq16 ++ kT_X1 csq27 ++ kT_X6 csq38 ++ kT_X9 csq49 ++ kT_X5 csq60 ++ kT_X2 csq71 ++ kT_X3 csq82) s := hK
  refine W.widen (k := 51) (n := 8472) (Nat.le_of_ble_eq_true rfl) (Nat.le_of_ble_eq_true rfl) ?_
  refine va_putF (D := D) (cl := vwCl) (ci := 10) (v := .ref q82) (ty := .object "ConstrainedCoder$Encoder") (C := RX10) (T := TX10) (N := 13) (own := RX10) (ref := RX10) (index := 61) hx hb hts (k_in (ci := 10) rfl) tyX10 tyX10_ok nmX10 hown hK hP hD hS 0 rfl rfl 7 (by decide) (hts _ (mx_bg 256 (by decide +kernel) (by decide +kernel))) (fun _ h9 => h9) rfl hin rfl (by decide +kernel) rfl rfl (Nat.le_of_ble_eq_true rfl) (by decide +kernel) (fun H locs hP hD hS => ?_)
  have hP : va_P D vwCl ((h0, .inr (10, [.ref q5, .ref q16, .ref q27, .ref q38, .ref q49, .ref q60, .ref q71, .ref q82, .null, .null, .null, .null, .int 0])) :: (kW_X4 q5 asq5 csq5 ++ kW_X8 q16 asq16 csq16 ++ kW_X1 q27 asq27 csq27 ++ kW_X6 q38 asq38 csq38 ++ kW_X9 q49 asq49 csq49 ++ kW_X5 q60 asq60 csq60 ++ kW_X2 q71 asq71 csq71 ++ kW_X3 q82 asq82 csq82)) H := hP
  have hD : va_D A ((h0, .inr (10, [.ref q5, .ref q16, .ref q27, .ref q38, .ref q49, .ref q60, .ref q71, .ref q82, .null, .null, .null, .null, .int 0])) :: (kW_X4 q5 asq5 csq5 ++ kW_X8 q16 asq16 csq16 ++ kW_X1 q27 asq27 csq27 ++ kW_X6 q38 asq38 csq38 ++ kW_X9 q49 asq49 csq49 ++ kW_X5 q60 asq60 csq60 ++ kW_X2 q71 asq71 csq71 ++ kW_X3 q82 asq82 csq82)) := hD
  refine lv_aload_n (k := 0) hx hb (by decide +kernel) rfl (lv_at hl 0 rfl) ?_
  refine va_new (ci := 0) (fs := [.null, .null]) (own := RX10) (C := RX0) (T := TX0) (N := 2) (index := 65) hx hb hts (k_in (ci := 0) rfl) tyX0 tyX0_ok hown (hts _ (mx_bg 218 (by decide +kernel) (by decide +kernel))) (hts _ (mx_bg 219 (by decide +kernel) (by decide +kernel))) (hts _ (mx_bg 38 (by decide +kernel) (by decide +kernel))) hK hP hD hS hA rfl (by decide) (Nat.le_of_ble_eq_true rfl) (Nat.le_of_ble_eq_true rfl) (by decide +kernel) (fun q93 H hP hD hS => ?_)
  have hP : va_P D vwCl (((h0, .inr (10, [.ref q5, .ref q16, .ref q27, .ref q38, .ref q49, .ref q60, .ref q71, .ref q82, .null, .null, .null, .null, .int 0])) :: (kW_X4 q5 asq5 csq5 ++ kW_X8 q16 asq16 csq16 ++ kW_X1 q27 asq27 csq27 ++ kW_X6 q38 asq38 csq38 ++ kW_X9 q49 asq49 csq49 ++ kW_X5 q60 asq60 csq60 ++ kW_X2 q71 asq71 csq71 ++ kW_X3 q82 asq82 csq82)) ++ [(q93, .inr (0, [.null, .null]))]) H := hP
  have hD : va_D A (((h0, .inr (10, [.ref q5, .ref q16, .ref q27, .ref q38, .ref q49, .ref q60, .ref q71, .ref q82, .null, .null, .null, .null, .int 0])) :: (kW_X4 q5 asq5 csq5 ++ kW_X8 q16 asq16 csq16 ++ kW_X1 q27 asq27 csq27 ++ kW_X6 q38 asq38 csq38 ++ kW_X9 q49 asq49 csq49 ++ kW_X5 q60 asq60 csq60 ++ kW_X2 q71 asq71 csq71 ++ kW_X3 q82 asq82 csq82)) ++ [(q93, .inr (0, [.null, .null]))]) := hD
  refine W.widen (k := 52) (n := 8474) (Nat.le_of_ble_eq_true rfl) (Nat.le_of_ble_eq_true rfl) ?_
  refine lv_dup hx hb (by decide +kernel) rfl ?_
  have hPc := k_subP hP
  have hDc := k_subD hD
  have hKc := hK.sub (tys' := []) [] rfl
  have hFc := k_free hD hS hA
  refine va_callv (va_runI (index := 67) (As := []) (rest := [.ref q93, .ref h0]) ⟨hx, hb, hml, hown, hts⟩ (k_X0 l D q93 H.size) (cwI 0 hts (k_good (mx_bg 222 (by decide +kernel) (by decide +kernel))) rfl rfl rfl (hts _ (mx_bg 38 (by decide +kernel) (by decide +kernel))) (hts (.methodLink RX10 67 yX0_init) (mx_bg 220 (by decide +kernel) (by decide +kernel))) (hts _ (mx_bg 221 (by decide +kernel) (by decide +kernel))) rfl (by decide +kernel) ⟨(Nat.le_of_ble_eq_true rfl), (Nat.le_of_ble_eq_true rfl)⟩) ⟨k_blind, fun U hU hW => ⟨rfl, by rw [hU], by rw [hU]; exact hPc, va_K.moved hW.alike hKc, hDc.weaken (fun _ _ _ _ => trivial), hO1.moved hW.alike, hO2.moved hW.alike⟩⟩ rfl rfl hl.1 rfl (lv_room (Nat.le_of_ble_eq_true rfl)) (show decode cX10_init 97 = .ok (.invokespecial 67, 3) from by decide +kernel) ⟨(Nat.le_of_ble_eq_true rfl), (Nat.le_of_ble_eq_true rfl)⟩) hS (fun q _ h => hFc q h) hFc (fun u t H1 locs ht hvm hu hB hz1 hk1 hS => ?_)
  obtain ⟨asq93, csq93, hP1, hK1, hD1⟩ := hB
  rw [ht] at hP1
  have hK1 := va_K.moved hvm.symm hK1
  obtain ⟨hP, hD⟩ := k_join hP hD hk1 hFc hP1 hD1
  have hK := hK.app hK1
  generalize H1 = H at hP hS ⊢
  have hP : va_P D vwCl ((h0, .inr (10, [.ref q5, .ref q16, .ref q27, .ref q38, .ref q49, .ref q60, .ref q71, .ref q82, .null, .null, .null, .null, .int 0])) :: (kW_X4 q5 asq5 csq5 ++ kW_X8 q16 asq16 csq16 ++ kW_X1 q27 asq27 csq27 ++ kW_X6 q38 asq38 csq38 ++ kW_X9 q49 asq49 csq49 ++ kW_X5 q60 asq60 csq60 ++ kW_X2 q71 asq71 csq71 ++ kW_X3 q82 asq82 csq82 ++ kW_X0 q93 asq93 csq93)) H := hP
  have hD : va_D A ((h0, .inr (10, [.ref q5, .ref q16, .ref q27, .ref q38, .ref q49, .ref q60, .ref q71, .ref q82, .null, .null, .null, .null, .int 0])) :: (kW_X4 q5 asq5 csq5 ++ kW_X8 q16 asq16 csq16 ++ kW_X1 q27 asq27 csq27 ++ kW_X6 q38 asq38 csq38 ++ kW_X9 q49 asq49 csq49 ++ kW_X5 q60 asq60 csq60 ++ kW_X2 q71 asq71 csq71 ++ kW_X3 q82 asq82 csq82 ++ kW_X0 q93 asq93 csq93)) := hD
  have hK : va_K D vwCl ([] ++ kT_X4 csq5 ++ kT_X8 csq16 ++ kT_X1 csq27 ++ kT_X6 csq38 ++ kT_X9 csq49 ++ kT_X5 csq60 ++ kT_X2 csq71 ++ kT_X3 csq82 ++ kT_X0 csq93) s := hK
  refine W.widen (k := 54) (n := 8506) (Nat.le_of_ble_eq_true rfl) (Nat.le_of_ble_eq_true rfl) ?_
  refine va_putF (D := D) (cl := vwCl) (ci := 10) (v := .ref q93) (ty := .object "ConstrainedCoder$AnticipationFinder") (C := RX10) (T := TX10) (N := 13) (own := RX10) (ref := RX10) (index := 68) hx hb hts (k_in (ci := 10) rfl) tyX10 tyX10_ok nmX10 hown hK hP hD hS 0 rfl rfl 8 (by decide) (hts _ (mx_bg 257 (by decide +kernel) (by decide +kernel))) (fun _ h9 => h9) rfl hin rfl (by decide +kernel) rfl rfl (Nat.le_of_ble_eq_true rfl) (by decide +kernel) (fun H locs hP hD hS => ?_)
  have hP : va_P D vwCl ((h0, .inr (10, [.ref q5, .ref q16, .ref q27, .ref q38, .ref q49, .ref q60, .ref q71, .ref q82, .ref q93, .null, .null, .null, .int 0])) :: (kW_X4 q5 asq5 csq5 ++ kW_X8 q16 asq16 csq16 ++ kW_X1 q27 asq27 csq27 ++ kW_X6 q38 asq38 csq38 ++ kW_X9 q49 asq49 csq49 ++ kW_X5 q60 asq60 csq60 ++ kW_X2 q71 asq71 csq71 ++ kW_X3 q82 asq82 csq82 ++ kW_X0 q93 asq93 csq93)) H := hP
  have hD : va_D A ((h0, .inr (10, [.ref q5, .ref q16, .ref q27, .ref q38, .ref q49, .ref q60, .ref q71, .ref q82, .ref q93, .null, .null, .null, .int 0])) :: (kW_X4 q5 asq5 csq5 ++ kW_X8 q16 asq16 csq16 ++ kW_X1 q27 asq27 csq27 ++ kW_X6 q38 asq38 csq38 ++ kW_X9 q49 asq49 csq49 ++ kW_X5 q60 asq60 csq60 ++ kW_X2 q71 asq71 csq71 ++ kW_X3 q82 asq82 csq82 ++ kW_X0 q93 asq93 csq93)) := hD
  refine lv_aload_n (k := 0) hx hb (by decide +kernel) rfl (lv_at hl 0 rfl) ?_
  refine va_new (ci := 7) (fs := [.null, .null, .null]) (own := RX10) (C := RX7) (T := TX7) (N := 3) (index := 72) hx hb hts (k_in (ci := 7) rfl) tyX7 tyX7_ok hown (hts _ (mx_bg 231 (by decide +kernel) (by decide +kernel))) (hts _ (mx_bg 232 (by decide +kernel) (by decide +kernel))) (hts _ (mx_bg 39 (by decide +kernel) (by decide +kernel))) hK hP hD hS hA rfl (by decide) (Nat.le_of_ble_eq_true rfl) (Nat.le_of_ble_eq_true rfl) (by decide +kernel) (fun q104 H hP hD hS => ?_)
  have hP : va_P D vwCl (((h0, .inr (10, [.ref q5, .ref q16, .ref q27, .ref q38, .ref q49, .ref q60, .ref q71, .ref q82, .ref q93, .null, .null, .null, .int 0])) :: (kW_X4 q5 asq5 csq5 ++ kW_X8 q16 asq16 csq16 ++ kW_X1 q27 asq27 csq27 ++ kW_X6 q38 asq38 csq38 ++ kW_X9 q49 asq49 csq49 ++ kW_X5 q60 asq60 csq60 ++ kW_X2 q71 asq71 csq71 ++ kW_X3 q82 asq82 csq82 ++ kW_X0 q93 asq93 csq93)) ++ [(q104, .inr (7, [.null, .null, .null]))]) H := hP
  have hD : va_D A (((h0, .inr (10, [.ref q5, .ref q16, .ref q27, .ref q38, .ref q49, .ref q60, .ref q71, .ref q82, .ref q93, .null, .null, .null, .int 0])) :: (kW_X4 q5 asq5 csq5 ++ kW_X8 q16 asq16 csq16 ++ kW_X1 q27 asq27 csq27 ++ kW_X6 q38 asq38 csq38 ++ kW_X9 q49 asq49 csq49 ++ kW_X5 q60 asq60 csq60 ++ kW_X2 q71 asq71 csq71 ++ kW_X3 q82 asq82 csq82 ++ kW_X0 q93 asq93 csq93)) ++ [(q104, .inr (7, [.null, .null, .null]))]) := hD
  refine W.widen (k := 55) (n := 8509) (Nat.le_of_ble_eq_true rfl) (Nat.le_of_ble_eq_true rfl) ?_
  refine lv_dup hx hb (by decide +kernel) rfl ?_
  have hPc := k_subP hP
  have hDc := k_subD hD
  have hKc := hK.sub (tys' := []) [] rfl
  have hFc := k_free hD hS hA
  refine va_callv (va_runI (index := 74) (As := []) (rest := [.ref q104, .ref h0]) ⟨hx, hb, hml, hown, hts⟩ (k_X7 l D q104 H.size) (cwI 0 hts (k_good (mx_bg 235 (by decide +kernel) (by decide +kernel))) rfl rfl rfl (hts _ (mx_bg 39 (by decide +kernel) (by decide +kernel))) (hts (.methodLink RX10 74 yX7_init) (mx_bg 233 (by decide +kernel) (by decide +kernel))) (hts _ (mx_bg 234 (by decide +kernel) (by decide +kernel))) rfl (by decide +kernel) ⟨(Nat.le_of_ble_eq_true rfl), (Nat.le_of_ble_eq_true rfl)⟩) ⟨k_blind, fun U hU hW => ⟨rfl, by rw [hU], by rw [hU]; exact hPc, va_K.moved hW.alike hKc, hDc.weaken (fun _ _ _ _ => trivial), hO1.moved hW.alike, hO2.moved hW.alike⟩⟩ rfl rfl hl.1 rfl (lv_room (Nat.le_of_ble_eq_true rfl)) (show decode cX10_init 108 = .ok (.invokespecial 74, 3) from by decide +kernel) ⟨(Nat.le_of_ble_eq_true rfl), (Nat.le_of_ble_eq_true rfl)⟩) hS (fun q _ h => hFc q h) hFc (fun u t H1 locs ht hvm hu hB hz1 hk1 hS => ?_)
  obtain ⟨asq104, csq104, hP1, hK1, hD1⟩ := hB
  rw [ht] at hP1
  have hK1 := va_K.moved hvm.symm hK1
  obtain ⟨hP, hD⟩ := k_join hP hD hk1 hFc hP1 hD1
  have hK := hK.app hK1
  generalize H1 = H at hP hS ⊢
  have hP : va_P D vwCl ((h0, .inr (10, [.ref q5, .ref q16, .ref q27, .ref q38, .ref q49, .ref q60, .ref q71, .ref q82, .ref q93, .null, .null, .null, .int 0])) :: (kW_X4 q5 asq5 csq5 ++ kW_X8 q16 asq16 csq16 ++ kW_X1 q27 asq27 csq27 ++ kW_X6 q38 asq38 csq38 ++ kW_X9 q49 asq49 csq49 ++ kW_X5 q60 asq60 csq60 ++ kW_X2 q71 asq71 csq71 ++ kW_X3 q82 asq82 csq82 ++ kW_X0 q93 asq93 csq93 ++ kW_X7 q104 asq104 csq104)) H := hP
  have hD : va_D A ((h0, .inr (10, [.ref q5, .ref q16, .ref q27, .ref q38, .ref q49, .ref q60, .ref q71, .ref q82, .ref q93, .null, .null, .null, .int 0])) :: (kW_X4 q5 asq5 csq5 ++ kW_X8 q16 asq16 csq16 ++ kW_X1 q27 asq27 csq27 ++ kW_X6 q38 asq38 csq38 ++ kW_X9 q49 asq49 csq49 ++ kW_X5 q60 asq60 csq60 ++ kW_X2 q71 asq71 csq71 ++ kW_X3 q82 asq82 csq82 ++ kW_X0 q93 asq93 csq93 ++ kW_X7 q104 asq104 csq104)) := hD
  have hK : va_K D vwCl ([] ++ kT_X4 csq5 ++ kT_X8 csq16 ++ kT_X1 csq27 ++ kT_X6 csq38 ++ kT_X9 csq49 ++ kT_X5 csq60 ++ kT_X2 csq71 ++ kT_X3 csq82 ++ kT_X0 csq93 ++ kT_X7 csq104) s := hK
  refine W.widen (k := 61) (n := 8578) (Nat.le_of_ble_eq_true rfl) (Nat.le_of_ble_eq_true rfl) ?_
  refine va_putF (D := D) (cl := vwCl) (ci := 10) (v := .ref q104) (ty := .object "ConstrainedCoder$Slots") (C := RX10) (T := TX10) (N := 13) (own := RX10) (ref := RX10) (index := 75) hx hb hts (k_in (ci := 10) rfl) tyX10 tyX10_ok nmX10 hown hK hP hD hS 0 rfl rfl 9 (by decide) (hts _ (mx_bg 258 (by decide +kernel) (by decide +kernel))) (fun _ h9 => h9) rfl hin rfl (by decide +kernel) rfl rfl (Nat.le_of_ble_eq_true rfl) (by decide +kernel) (fun H locs hP hD hS => ?_)
  have hP : va_P D vwCl ((h0, .inr (10, [.ref q5, .ref q16, .ref q27, .ref q38, .ref q49, .ref q60, .ref q71, .ref q82, .ref q93, .ref q104, .null, .null, .int 0])) :: (kW_X4 q5 asq5 csq5 ++ kW_X8 q16 asq16 csq16 ++ kW_X1 q27 asq27 csq27 ++ kW_X6 q38 asq38 csq38 ++ kW_X9 q49 asq49 csq49 ++ kW_X5 q60 asq60 csq60 ++ kW_X2 q71 asq71 csq71 ++ kW_X3 q82 asq82 csq82 ++ kW_X0 q93 asq93 csq93 ++ kW_X7 q104 asq104 csq104)) H := hP
  have hD : va_D A ((h0, .inr (10, [.ref q5, .ref q16, .ref q27, .ref q38, .ref q49, .ref q60, .ref q71, .ref q82, .ref q93, .ref q104, .null, .null, .int 0])) :: (kW_X4 q5 asq5 csq5 ++ kW_X8 q16 asq16 csq16 ++ kW_X1 q27 asq27 csq27 ++ kW_X6 q38 asq38 csq38 ++ kW_X9 q49 asq49 csq49 ++ kW_X5 q60 asq60 csq60 ++ kW_X2 q71 asq71 csq71 ++ kW_X3 q82 asq82 csq82 ++ kW_X0 q93 asq93 csq93 ++ kW_X7 q104 asq104 csq104)) := hD
  refine lv_aload_n (k := 0) hx hb (by decide +kernel) rfl (lv_at hl 0 rfl) ?_
  refine va_new (ci := 4) (fs := [.null, .null, .null, .null, .int 0, .int 0, .int 0]) (own := RX10) (C := RX4) (T := TX4) (N := 7) (index := 7) hx hb hts (k_in (ci := 4) rfl) tyX4 tyX4_ok hown (hts _ (mx_bg 52 (by decide +kernel) (by decide +kernel))) (hts _ (mx_bg 53 (by decide +kernel) (by decide +kernel))) (hts _ (mx_bg 30 (by decide +kernel) (by decide +kernel))) hK hP hD hS hA rfl (by decide) (Nat.le_of_ble_eq_true rfl) (Nat.le_of_ble_eq_true rfl) (by decide +kernel) (fun q115 H hP hD hS => ?_)
  have hP : va_P D vwCl (((h0, .inr (10, [.ref q5, .ref q16, .ref q27, .ref q38, .ref q49, .ref q60, .ref q71, .ref q82, .ref q93, .ref q104, .null, .null, .int 0])) :: (kW_X4 q5 asq5 csq5 ++ kW_X8 q16 asq16 csq16 ++ kW_X1 q27 asq27 csq27 ++ kW_X6 q38 asq38 csq38 ++ kW_X9 q49 asq49 csq49 ++ kW_X5 q60 asq60 csq60 ++ kW_X2 q71 asq71 csq71 ++ kW_X3 q82 asq82 csq82 ++ kW_X0 q93 asq93 csq93 ++ kW_X7 q104 asq104 csq104)) ++ [(q115, .inr (4, [.null, .null, .null, .null, .int 0, .int 0, .int 0]))]) H := hP
  have hD : va_D A (((h0, .inr (10, [.ref q5, .ref q16, .ref q27, .ref q38, .ref q49, .ref q60, .ref q71, .ref q82, .ref q93, .ref q104, .null, .null, .int 0])) :: (kW_X4 q5 asq5 csq5 ++ kW_X8 q16 asq16 csq16 ++ kW_X1 q27 asq27 csq27 ++ kW_X6 q38 asq38 csq38 ++ kW_X9 q49 asq49 csq49 ++ kW_X5 q60 asq60 csq60 ++ kW_X2 q71 asq71 csq71 ++ kW_X3 q82 asq82 csq82 ++ kW_X0 q93 asq93 csq93 ++ kW_X7 q104 asq104 csq104)) ++ [(q115, .inr (4, [.null, .null, .null, .null, .int 0, .int 0, .int 0]))]) := hD
  refine W.widen (k := 62) (n := 8585) (Nat.le_of_ble_eq_true rfl) (Nat.le_of_ble_eq_true rfl) ?_
  refine lv_dup hx hb (by decide +kernel) rfl ?_
  have hPc := k_subP hP
  have hDc := k_subD hD
  have hKc := hK.sub (tys' := []) [] rfl
  have hFc := k_free hD hS hA
  refine va_callv (va_runI (index := 9) (As := []) (rest := [.ref q115, .ref h0]) ⟨hx, hb, hml, hown, hts⟩ (k_X4 l D q115 H.size) (cwI 0 hts (k_good (mx_bg 56 (by decide +kernel) (by decide +kernel))) rfl rfl rfl (hts _ (mx_bg 30 (by decide +kernel) (by decide +kernel))) (hts (.methodLink RX10 9 yX4_init) (mx_bg 54 (by decide +kernel) (by decide +kernel))) (hts _ (mx_bg 55 (by decide +kernel) (by decide +kernel))) rfl (by decide +kernel) ⟨(Nat.le_of_ble_eq_true rfl), (Nat.le_of_ble_eq_true rfl)⟩) ⟨k_blind, fun U hU hW => ⟨rfl, by rw [hU], by rw [hU]; exact hPc, va_K.moved hW.alike hKc, hDc.weaken (fun _ _ _ _ => trivial), hO1.moved hW.alike, hO2.moved hW.alike⟩⟩ rfl rfl hl.1 rfl (lv_room (Nat.le_of_ble_eq_true rfl)) (show decode cX10_init 119 = .ok (.invokespecial 9, 3) from by decide +kernel) ⟨(Nat.le_of_ble_eq_true rfl), (Nat.le_of_ble_eq_true rfl)⟩) hS (fun q _ h => hFc q h) hFc (fun u t H1 locs ht hvm hu hB hz1 hk1 hS => ?_)
  obtain ⟨asq115, csq115, hP1, hK1, hD1⟩ := hB
  rw [ht] at hP1
  have hK1 := va_K.moved hvm.symm hK1
  obtain ⟨hP, hD⟩ := k_join hP hD hk1 hFc hP1 hD1
  have hK := hK.app hK1
  generalize H1 = H at hP hS ⊢
  have hP : va_P D vwCl ((h0, .inr (10, [.ref q5, .ref q16, .ref q27, .ref q38, .ref q49, .ref q60, .ref q71, .ref q82, .ref q93, .ref q104, .null, .null, .int 0])) :: (kW_X4 q5 asq5 csq5 ++ kW_X8 q16 asq16 csq16 ++ kW_X1 q27 asq27 csq27 ++ kW_X6 q38 asq38 csq38 ++ kW_X9 q49 asq49 csq49 ++ kW_X5 q60 asq60 csq60 ++ kW_X2 q71 asq71 csq71 ++ kW_X3 q82 asq82 csq82 ++ kW_X0 q93 asq93 csq93 ++ kW_X7 q104 asq104 csq104 ++ kW_X4 q115 asq115 csq115)) H := hP
  have hD : va_D A ((h0, .inr (10, [.ref q5, .ref q16, .ref q27, .ref q38, .ref q49, .ref q60, .ref q71, .ref q82, .ref q93, .ref q104, .null, .null, .int 0])) :: (kW_X4 q5 asq5 csq5 ++ kW_X8 q16 asq16 csq16 ++ kW_X1 q27 asq27 csq27 ++ kW_X6 q38 asq38 csq38 ++ kW_X9 q49 asq49 csq49 ++ kW_X5 q60 asq60 csq60 ++ kW_X2 q71 asq71 csq71 ++ kW_X3 q82 asq82 csq82 ++ kW_X0 q93 asq93 csq93 ++ kW_X7 q104 asq104 csq104 ++ kW_X4 q115 asq115 csq115)) := hD
  have hK : va_K D vwCl ([] ++ kT_X4 csq5 ++ kT_X8 csq16 ++ kT_X1 csq27 ++ kT_X6 csq38 ++ kT_X9 csq49 ++ kT_X5 csq60 ++ kT_X2 csq71 ++ kT_X3 csq82 ++ kT_X0 csq93 ++ kT_X7 csq104 ++ kT_X4 csq115) s := hK
  refine W.widen (k := 66) (n := 8793) (Nat.le_of_ble_eq_true rfl) (Nat.le_of_ble_eq_true rfl) ?_
  refine va_putF (D := D) (cl := vwCl) (ci := 10) (v := .ref q115) (ty := .object "ConstrainedCoder$Graph") (C := RX10) (T := TX10) (N := 13) (own := RX10) (ref := RX10) (index := 79) hx hb hts (k_in (ci := 10) rfl) tyX10 tyX10_ok nmX10 hown hK hP hD hS 0 rfl rfl 10 (by decide) (hts _ (mx_bg 259 (by decide +kernel) (by decide +kernel))) (fun _ h9 => h9) rfl hin rfl (by decide +kernel) rfl rfl (Nat.le_of_ble_eq_true rfl) (by decide +kernel) (fun H locs hP hD hS => ?_)
  have hP : va_P D vwCl ((h0, .inr (10, [.ref q5, .ref q16, .ref q27, .ref q38, .ref q49, .ref q60, .ref q71, .ref q82, .ref q93, .ref q104, .ref q115, .null, .int 0])) :: (kW_X4 q5 asq5 csq5 ++ kW_X8 q16 asq16 csq16 ++ kW_X1 q27 asq27 csq27 ++ kW_X6 q38 asq38 csq38 ++ kW_X9 q49 asq49 csq49 ++ kW_X5 q60 asq60 csq60 ++ kW_X2 q71 asq71 csq71 ++ kW_X3 q82 asq82 csq82 ++ kW_X0 q93 asq93 csq93 ++ kW_X7 q104 asq104 csq104 ++ kW_X4 q115 asq115 csq115)) H := hP
  have hD : va_D A ((h0, .inr (10, [.ref q5, .ref q16, .ref q27, .ref q38, .ref q49, .ref q60, .ref q71, .ref q82, .ref q93, .ref q104, .ref q115, .null, .int 0])) :: (kW_X4 q5 asq5 csq5 ++ kW_X8 q16 asq16 csq16 ++ kW_X1 q27 asq27 csq27 ++ kW_X6 q38 asq38 csq38 ++ kW_X9 q49 asq49 csq49 ++ kW_X5 q60 asq60 csq60 ++ kW_X2 q71 asq71 csq71 ++ kW_X3 q82 asq82 csq82 ++ kW_X0 q93 asq93 csq93 ++ kW_X7 q104 asq104 csq104 ++ kW_X4 q115 asq115 csq115)) := hD
  refine lv_aload_n (k := 0) hx hb (by decide +kernel) rfl (lv_at hl 0 rfl) ?_
  refine va_new (ci := 8) (fs := [.null, .int 0]) (own := RX10) (C := RX8) (T := TX8) (N := 2) (index := 16) hx hb hts (k_in (ci := 8) rfl) tyX8 tyX8_ok hown (hts _ (mx_bg 81 (by decide +kernel) (by decide +kernel))) (hts _ (mx_bg 82 (by decide +kernel) (by decide +kernel))) (hts _ (mx_bg 31 (by decide +kernel) (by decide +kernel))) hK hP hD hS hA rfl (by decide) (Nat.le_of_ble_eq_true rfl) (Nat.le_of_ble_eq_true rfl) (by decide +kernel) (fun q126 H hP hD hS => ?_)
  have hP : va_P D vwCl (((h0, .inr (10, [.ref q5, .ref q16, .ref q27, .ref q38, .ref q49, .ref q60, .ref q71, .ref q82, .ref q93, .ref q104, .ref q115, .null, .int 0])) :: (kW_X4 q5 asq5 csq5 ++ kW_X8 q16 asq16 csq16 ++ kW_X1 q27 asq27 csq27 ++ kW_X6 q38 asq38 csq38 ++ kW_X9 q49 asq49 csq49 ++ kW_X5 q60 asq60 csq60 ++ kW_X2 q71 asq71 csq71 ++ kW_X3 q82 asq82 csq82 ++ kW_X0 q93 asq93 csq93 ++ kW_X7 q104 asq104 csq104 ++ kW_X4 q115 asq115 csq115)) ++ [(q126, .inr (8, [.null, .int 0]))]) H := hP
  have hD : va_D A (((h0, .inr (10, [.ref q5, .ref q16, .ref q27, .ref q38, .ref q49, .ref q60, .ref q71, .ref q82, .ref q93, .ref q104, .ref q115, .null, .int 0])) :: (kW_X4 q5 asq5 csq5 ++ kW_X8 q16 asq16 csq16 ++ kW_X1 q27 asq27 csq27 ++ kW_X6 q38 asq38 csq38 ++ kW_X9 q49 asq49 csq49 ++ kW_X5 q60 asq60 csq60 ++ kW_X2 q71 asq71 csq71 ++ kW_X3 q82 asq82 csq82 ++ kW_X0 q93 asq93 csq93 ++ kW_X7 q104 asq104 csq104 ++ kW_X4 q115 asq115 csq115)) ++ [(q126, .inr (8, [.null, .int 0]))]) := hD
  refine W.widen (k := 67) (n := 8795) (Nat.le_of_ble_eq_true rfl) (Nat.le_of_ble_eq_true rfl) ?_
  refine lv_dup hx hb (by decide +kernel) rfl ?_
  have hPc := k_subP hP
  have hDc := k_subD hD
  have hKc := hK.sub (tys' := []) [] rfl
  have hFc := k_free hD hS hA
  refine va_callv (va_runI (index := 18) (As := []) (rest := [.ref q126, .ref h0]) ⟨hx, hb, hml, hown, hts⟩ (k_X8 l D q126 H.size) (cwI 0 hts (k_good (mx_bg 85 (by decide +kernel) (by decide +kernel))) rfl rfl rfl (hts _ (mx_bg 31 (by decide +kernel) (by decide +kernel))) (hts (.methodLink RX10 18 yX8_init) (mx_bg 83 (by decide +kernel) (by decide +kernel))) (hts _ (mx_bg 84 (by decide +kernel) (by decide +kernel))) rfl (by decide +kernel) ⟨(Nat.le_of_ble_eq_true rfl), (Nat.le_of_ble_eq_true rfl)⟩) ⟨k_blind, fun U hU hW => ⟨rfl, by rw [hU], by rw [hU]; exact hPc, va_K.moved hW.alike hKc, hDc.weaken (fun _ _ _ _ => trivial), hO1.moved hW.alike, hO2.moved hW.alike⟩⟩ rfl rfl hl.1 rfl (lv_room (Nat.le_of_ble_eq_true rfl)) (show decode cX10_init 130 = .ok (.invokespecial 18, 3) from by decide +kernel) ⟨(Nat.le_of_ble_eq_true rfl), (Nat.le_of_ble_eq_true rfl)⟩) hS (fun q _ h => hFc q h) hFc (fun u t H1 locs ht hvm hu hB hz1 hk1 hS => ?_)
  obtain ⟨asq126, csq126, hP1, hK1, hD1⟩ := hB
  rw [ht] at hP1
  have hK1 := va_K.moved hvm.symm hK1
  obtain ⟨hP, hD⟩ := k_join hP hD hk1 hFc hP1 hD1
  have hK := hK.app hK1
  generalize H1 = H at hP hS ⊢
  have hP : va_P D vwCl ((h0, .inr (10, [.ref q5, .ref q16, .ref q27, .ref q38, .ref q49, .ref q60, .ref q71, .ref q82, .ref q93, .ref q104, .ref q115, .null, .int 0])) :: (kW_X4 q5 asq5 csq5 ++ kW_X8 q16 asq16 csq16 ++ kW_X1 q27 asq27 csq27 ++ kW_X6 q38 asq38 csq38 ++ kW_X9 q49 asq49 csq49 ++ kW_X5 q60 asq60 csq60 ++ kW_X2 q71 asq71 csq71 ++ kW_X3 q82 asq82 csq82 ++ kW_X0 q93 asq93 csq93 ++ kW_X7 q104 asq104 csq104 ++ kW_X4 q115 asq115 csq115 ++ kW_X8 q126 asq126 csq126)) H := hP
  have hD : va_D A ((h0, .inr (10, [.ref q5, .ref q16, .ref q27, .ref q38, .ref q49, .ref q60, .ref q71, .ref q82, .ref q93, .ref q104, .ref q115, .null, .int 0])) :: (kW_X4 q5 asq5 csq5 ++ kW_X8 q16 asq16 csq16 ++ kW_X1 q27 asq27 csq27 ++ kW_X6 q38 asq38 csq38 ++ kW_X9 q49 asq49 csq49 ++ kW_X5 q60 asq60 csq60 ++ kW_X2 q71 asq71 csq71 ++ kW_X3 q82 asq82 csq82 ++ kW_X0 q93 asq93 csq93 ++ kW_X7 q104 asq104 csq104 ++ kW_X4 q115 asq115 csq115 ++ kW_X8 q126 asq126 csq126)) := hD
  have hK : va_K D vwCl ([] ++ kT_X4 csq5 ++ kT_X8 csq16 ++ kT_X1 csq27 ++ kT_X6 csq38 ++ kT_X9 csq49 ++ kT_X5 csq60 ++ kT_X2 csq71 ++ kT_X3 csq82 ++ kT_X0 csq93 ++ kT_X7 csq104 ++ kT_X4 csq115 ++ kT_X8 csq126) s := hK
  refine W.widen (k := 68) (n := 8835) (Nat.le_of_ble_eq_true rfl) (Nat.le_of_ble_eq_true rfl) ?_
  refine va_putF (D := D) (cl := vwCl) (ci := 10) (v := .ref q126) (ty := .object "ConstrainedCoder$Word") (C := RX10) (T := TX10) (N := 13) (own := RX10) (ref := RX10) (index := 82) hx hb hts (k_in (ci := 10) rfl) tyX10 tyX10_ok nmX10 hown hK hP hD hS 0 rfl rfl 11 (by decide) (hts _ (mx_bg 260 (by decide +kernel) (by decide +kernel))) (fun _ h9 => h9) rfl hin rfl (by decide +kernel) rfl rfl (Nat.le_of_ble_eq_true rfl) (by decide +kernel) (fun H locs hP hD hS => ?_)
  have hP : va_P D vwCl ((h0, .inr (10, [.ref q5, .ref q16, .ref q27, .ref q38, .ref q49, .ref q60, .ref q71, .ref q82, .ref q93, .ref q104, .ref q115, .ref q126, .int 0])) :: (kW_X4 q5 asq5 csq5 ++ kW_X8 q16 asq16 csq16 ++ kW_X1 q27 asq27 csq27 ++ kW_X6 q38 asq38 csq38 ++ kW_X9 q49 asq49 csq49 ++ kW_X5 q60 asq60 csq60 ++ kW_X2 q71 asq71 csq71 ++ kW_X3 q82 asq82 csq82 ++ kW_X0 q93 asq93 csq93 ++ kW_X7 q104 asq104 csq104 ++ kW_X4 q115 asq115 csq115 ++ kW_X8 q126 asq126 csq126)) H := hP
  have hD : va_D A ((h0, .inr (10, [.ref q5, .ref q16, .ref q27, .ref q38, .ref q49, .ref q60, .ref q71, .ref q82, .ref q93, .ref q104, .ref q115, .ref q126, .int 0])) :: (kW_X4 q5 asq5 csq5 ++ kW_X8 q16 asq16 csq16 ++ kW_X1 q27 asq27 csq27 ++ kW_X6 q38 asq38 csq38 ++ kW_X9 q49 asq49 csq49 ++ kW_X5 q60 asq60 csq60 ++ kW_X2 q71 asq71 csq71 ++ kW_X3 q82 asq82 csq82 ++ kW_X0 q93 asq93 csq93 ++ kW_X7 q104 asq104 csq104 ++ kW_X4 q115 asq115 csq115 ++ kW_X8 q126 asq126 csq126)) := hD
  refine lv_aload_n (k := 0) hx hb (by decide +kernel) rfl (lv_at hl 0 rfl) ?_
  refine lv_iconst (n := 0) (v := 0) hx hb (by decide +kernel) (by decide) ?_
  refine va_put (D := D) (cl := vwCl) (ci := 10) (v := .int 0) (ty := .boolean) (C := RX10) (T := TX10) (N := 13) (own := RX10) (ref := RX10) (index := 85) hx hb hts (k_in (ci := 10) rfl) tyX10 tyX10_ok nmX10 hown hK hP hD hS 0 rfl rfl 12 (by decide) (hts _ (mx_bg 261 (by decide +kernel) (by decide +kernel))) (fun _ h9 => h9) rfl (by decide +kernel) (by decide) (by decide) (Nat.le_of_ble_eq_true rfl) (by decide +kernel) (fun H locs hP hD hS => ?_)
  have hP : va_P D vwCl ((h0, .inr (10, [.ref q5, .ref q16, .ref q27, .ref q38, .ref q49, .ref q60, .ref q71, .ref q82, .ref q93, .ref q104, .ref q115, .ref q126, .int 0])) :: (kW_X4 q5 asq5 csq5 ++ kW_X8 q16 asq16 csq16 ++ kW_X1 q27 asq27 csq27 ++ kW_X6 q38 asq38 csq38 ++ kW_X9 q49 asq49 csq49 ++ kW_X5 q60 asq60 csq60 ++ kW_X2 q71 asq71 csq71 ++ kW_X3 q82 asq82 csq82 ++ kW_X0 q93 asq93 csq93 ++ kW_X7 q104 asq104 csq104 ++ kW_X4 q115 asq115 csq115 ++ kW_X8 q126 asq126 csq126)) H := hP
  have hD : va_D A ((h0, .inr (10, [.ref q5, .ref q16, .ref q27, .ref q38, .ref q49, .ref q60, .ref q71, .ref q82, .ref q93, .ref q104, .ref q115, .ref q126, .int 0])) :: (kW_X4 q5 asq5 csq5 ++ kW_X8 q16 asq16 csq16 ++ kW_X1 q27 asq27 csq27 ++ kW_X6 q38 asq38 csq38 ++ kW_X9 q49 asq49 csq49 ++ kW_X5 q60 asq60 csq60 ++ kW_X2 q71 asq71 csq71 ++ kW_X3 q82 asq82 csq82 ++ kW_X0 q93 asq93 csq93 ++ kW_X7 q104 asq104 csq104 ++ kW_X4 q115 asq115 csq115 ++ kW_X8 q126 asq126 csq126)) := hD
  exact W.vret hx hb hr (fun t ht hW => ⟨⟨(), rfl, trivial, fun i => ([q5, q16, q27, q38, q49, q60, q71, q82, q93, q104, q115, q126] : List Nat).getD i 0, fun i => ([asq5, asq16, asq27, asq38, asq49, asq60, asq71, asq82, asq93, asq104, asq115, asq126] : List (Nat → Nat)).getD i (fun _ => 0), fun i => ([csq5, csq16, csq27, csq38, csq49, csq60, csq71, csq82, csq93, csq104, csq115, csq126] : List (Nat → ClassId)).getD i (fun _ => 0), by rw [ht]; exact hP, va_K.moved hW.alike hK, hD⟩, hS.F ht⟩) hS.2.2 (by decide +kernel)
