/-! String.length and String.charAt of a constant: the contracts of the methods that they call, and the two rows of the walk -/
def sr_F : Nat → Prop := fun _ => False
def sr_B (adK adV : Nat → Nat) (U : State) : Prop := vk_S 2 [7, 8] [[114, 108, 108, 32, 35, 32, 35], [99, 104, 97, 114, 103, 101, 32, 35]] adK adV sr_F U U.heap ∧ mx_Zs sr_F U U.heap
def sr_r (k : Nat) : Room := { frames := k, cells := 0, slots := 0, locals := 30 * k }
def sr_ws (y : MethodName) (cc : ByteArray) (maxL : Nat) (ret : Option FieldType) : List Jvm.Cond := Jvm.Cond.code y cc maxL ret :: mx_big
def sr_Q (v0 : Option Value) : Array Value → State → Outcome → State → Prop := fun _ st oc t => oc = .returned v0 ∧ t.heap = st.heap
theorem sr_good {y : MethodName} {cc : ByteArray} {maxL : Nat} {ret : Option FieldType} (h : Jvm.Cond.code y cc maxL ret ∈ mx_big) : GoodIn mx_big (sr_ws y cc maxL ret) := by
  have hg := mx_hy.2.2.2.2.2.2.2.2.2.2.2.2.2.2
  intro w hw
  rcases List.mem_cons.mp hw with rfl | hw
  · exact ⟨h, good_of_word (hg _ h)⟩
  · exact ⟨hw, good_of_word (hg w hw)⟩
theorem sr_B.at {adK adV : Nat → Nat} {s U : State} (h : sr_B adK adV s) (hU : U.heap = s.heap) (hW : s.WarmedH U.vm) : sr_B adK adV U := by
  unfold sr_B
  rw [hU]
  exact ⟨h.1.moved hW.alike, h.2.moved hW.alike⟩
theorem sr_blind {av : List Value} {adK adV : Nat → Nat} : FrameBlind (va_Pc av (sr_B adK adV)) := by
  intro a U g mk ⟨h0, h1, h2⟩
  exact ⟨h0, vk_S.moved (u := U) (U := U.calling g mk a) (Vm.Alike.refl U.vm) h1, mx_Zs.moved (u := U) (U := U.calling g mk a) (Vm.Alike.refl U.vm) h2⟩
theorem sr_blind0 {av : List Value} : FrameBlind (va_Pc av fun _ => True) := by
  intro a U g mk ⟨h0, _⟩
  exact ⟨h0, trivial⟩
theorem sr_head {l : Launch} {y : MethodName} {cc : ByteArray} {maxL k : Nat} {ret : Option FieldType} {av : List Value} {PB : State → Prop} {Qc : Array Value → State → Outcome → State → Prop} (hy : plainName y.cls = true)
    (body : ∀ (p : Program) (e : Env) (s : State) (m : MethodId) (below : List Frame) (meth : Method) (c : Code), CallFix p m c cc maxL s av.toArray mx_big y.cls → meth.sig.returnType = ret → meth.locks = false → PB s → W p l e (sr_r k) s m av.toArray below meth c s.heap [] 0 0 (MQ below Qc av.toArray s 0 0 sr_F) (F0 m 0 ((lg_sl av ++ List.replicate (maxL - (lg_sl av).length) Slot.unset).toArray) [])) : Met l y (sr_ws y cc maxL ret) (sr_r k) (va_Pc av PB) Qc 0 0 sr_F := by
  refine Met.ofW (cc := cc) (maxL := maxL) (ret := ret) hy rfl ?_
  intro p e s m args below meth c s₁ B hml hv
  obtain ⟨rfl, hB⟩ := hv
  have hts := atoms_spec (ws := sr_ws y cc maxL ret) B.pre
  have hown : s.vm.findClass y.cls = some m.cls := findClass_of_methodNamed B.named
  rw [lg_entry_eq]
  exact body p e s m below meth c ⟨B.exec, B.bytes, hml, hown, fun w hw => hts w (List.mem_cons_of_mem _ hw)⟩ B.returns B.notSynchronized hB
section SR
variable {p : Program} {l : Launch} {e : Env} {R : Room} {s : State} {m : MethodId} {args : Array Value} {below : List Frame} {meth : Method} {c : Code} {H : Heap} {locs : List Loc} {Q : State → Prop}
variable {cc : ByteArray} {own : String} {nL pc : Nat} {ls : Array Slot} {rest st0 As : List Value} {ar : Array Value} {A : Nat → Prop} {v0 : Option Value} {y : MethodName} {bytes : ByteArray} {maxL k idx : Nat} {ret : Option FieldType} {Pc : Array Value → State → Prop}
theorem sr_back (hr : va_Run p l e R s m args below meth c H locs 0 0 0 0 (F0 m pc ls st0) rest (sr_Q v0 ar) sr_F) (kk : W p l e R s m args below meth c H locs 0 0 Q (F0 m (pc + 3) ls (v0.toList ++ rest))) : W p l e R s m args below meth c H locs 0 0 Q (F0 m pc ls st0) := by
  intro T hT X
  obtain ⟨v, st₀, t, T', L, h0, X', hL, e1, e2, ⟨hv, hz⟩, st⟩ := hr T hT X
  have hLn : L = [] := List.eq_nil_iff_forall_not_mem.mpr fun q h => hL q h
  subst hLn
  rw [List.append_nil] at X'
  cases hv
  obtain ⟨t2, a1, b1⟩ := kk T' (e1.trans (hz.trans h0)) X'
  exact ⟨t2, st t2 a1, b1⟩
theorem sr_callS (S : CallFix p m c cc nL s args mx_big own) (hM : Met l y (sr_ws y bytes maxL ret) (sr_r k) Pc (sr_Q v0) 0 0 sr_F) (hc : Jvm.Cond.code y bytes maxL ret ∈ mx_big) (hi : Jvm.Cond.initialized y.cls ∈ mx_big) (hl : Jvm.Cond.methodLink own idx y ∈ mx_big) (hst : Jvm.Cond.static y ∈ mx_big)
    (hnm : y.cls ≠ "java/lang/invoke/MethodHandle" ∧ y.cls ≠ "java/lang/invoke/VarHandle" ∧ (parseMethodDescriptor y.desc).map (fun d => d.parameters.length) = some As.length) (hR : k + 1 ≤ R.frames ∧ 8 + (maxL + 11) + 30 * k ≤ R.locals) (hbl : FrameBlind Pc) (hP : ∀ U : State, U.heap = H → s.WarmedH U.vm → Pc As.toArray U) (hsz : ls.size = nL) (hr8 : (rest.map fun v => v.category).sum ≤ 8) (hstk : st0 = As.reverse ++ rest) (hdg : decode cc pc = .ok (.invokestatic idx, 3))
    (kk : W p l e R s m args below meth c H locs 0 0 Q (F0 m (pc + 3) ls (v0.toList ++ rest))) : W p l e R s m args below meth c H locs 0 0 Q (F0 m pc ls st0) := by
  have hts := S.2.2.2.2
  have hCB : CallB R s args own idx y bytes maxL ret (sr_ws y bytes maxL ret) (sr_r k) 0 0 As.length := callB_of As.length hts (sr_good hc) rfl rfl rfl (hts _ hi) (hts _ hl) hnm hR
  exact sr_back (va_runS (n := As.length) S hM ⟨hCB, hts _ hst⟩ ⟨hbl, fun U hU hW => hP U hU hW⟩ rfl rfl hsz hstk (lv_room hr8) hdg ⟨Nat.zero_le _, Nat.zero_le _⟩) kk
theorem sr_callV {C : String} {a : Nat} (S : CallFix p m c cc nL s args mx_big own) (hM : Met l y (sr_ws y bytes maxL ret) (sr_r k) Pc (sr_Q v0) 0 0 sr_F) (hc : Jvm.Cond.code y bytes maxL ret ∈ mx_big) (hi : Jvm.Cond.initialized y.cls ∈ mx_big) (hl : Jvm.Cond.methodLink own idx y ∈ mx_big) (hin : Jvm.Cond.instanceMethod y ∈ mx_big) (hse : Jvm.Cond.selects C y y ∈ mx_big)
    (hnm : y.cls ≠ "java/lang/invoke/MethodHandle" ∧ y.cls ≠ "java/lang/invoke/VarHandle" ∧ (parseMethodDescriptor y.desc).map (fun d => d.parameters.length) = some As.length) (hR : k + 1 ≤ R.frames ∧ 8 + (maxL + 11) + 30 * k ≤ R.locals) (hbl : FrameBlind Pc) (hrc : ∃ cell : Cell, H[a]? = some cell ∧ cell.vm.isStatics = false ∧ s.vm.findClass C = some cell.cls) (hP : ∀ U : State, U.heap = H → s.WarmedH U.vm → Pc (Value.ref a :: As).toArray U) (hsz : ls.size = nL) (hr8 : (rest.map fun v => v.category).sum ≤ 8) (hstk : st0 = As.reverse ++ .ref a :: rest) (hdg : decode cc pc = .ok (.invokevirtual idx, 3))
    (kk : W p l e R s m args below meth c H locs 0 0 Q (F0 m (pc + 3) ls (v0.toList ++ rest))) : W p l e R s m args below meth c H locs 0 0 Q (F0 m pc ls st0) := by
  have hts := S.2.2.2.2
  have hCB : CallB R s args own idx y bytes maxL ret (sr_ws y bytes maxL ret) (sr_r k) 0 0 As.length := callB_of As.length hts (sr_good hc) rfl rfl rfl (hts _ hi) (hts _ hl) hnm hR
  exact sr_back (va_runV (n := As.length) (As := As) (b := a) (C := C) S hM ⟨hCB, hts _ hin, hts _ hse⟩ ⟨hbl, hrc, fun U hU hW => hP U hU hW⟩ rfl rfl hsz hstk (lv_room hr8) hdg ⟨Nat.zero_le _, Nat.zero_le _⟩) kk
end SR
theorem sr_w71 : Jvm.Cond.initialized "java/lang/String" ∈ mx_big := mx_bg 72 (by decide +kernel) (by decide +kernel)
theorem sr_w72 : Jvm.Cond.initialized "java/lang/StringLatin1" ∈ mx_big := mx_bg 73 (by decide +kernel) (by decide +kernel)
theorem sr_w73 : Jvm.Cond.initialized "jdk/internal/util/Preconditions" ∈ mx_big := mx_bg 74 (by decide +kernel) (by decide +kernel)
theorem sr_w561 : Jvm.Cond.methodLink "ConstrainedCoder$ConstraintText" 31 yJ0_length_8abf5 ∈ mx_big := mx_bg 562 (by decide +kernel) (by decide +kernel)
theorem sr_w562 : Jvm.Cond.instanceMethod yJ0_length_8abf5 ∈ mx_big := mx_bg 563 (by decide +kernel) (by decide +kernel)
theorem sr_w563 : Jvm.Cond.selects "java/lang/String" yJ0_length_8abf5 yJ0_length_8abf5 ∈ mx_big := mx_bg 564 (by decide +kernel) (by decide +kernel)
theorem sr_w564 : Jvm.Cond.code yJ0_length_8abf5 cJ0_length_8abf5 1 (some .int) ∈ mx_big := mx_bg 565 (by decide +kernel) (by decide +kernel)
theorem sr_w565 : Jvm.Cond.methodLink "java/lang/String" 335 yJ0_coder_7d493 ∈ mx_big := mx_bg 566 (by decide +kernel) (by decide +kernel)
theorem sr_w566 : Jvm.Cond.instanceMethod yJ0_coder_7d493 ∈ mx_big := mx_bg 567 (by decide +kernel) (by decide +kernel)
theorem sr_w567 : Jvm.Cond.selects "java/lang/String" yJ0_coder_7d493 yJ0_coder_7d493 ∈ mx_big := mx_bg 568 (by decide +kernel) (by decide +kernel)
theorem sr_w568 : Jvm.Cond.code yJ0_coder_7d493 cJ0_coder_7d493 1 (some .byte) ∈ mx_big := mx_bg 569 (by decide +kernel) (by decide +kernel)
theorem sr_w569 : Jvm.Cond.fieldLink "java/lang/String" 38 "java/lang/String" "COMPACT_STRINGS" "Z" ∈ mx_big := mx_bg 570 (by decide +kernel) (by decide +kernel)
theorem sr_w572 : Jvm.Cond.methodLink "ConstrainedCoder$ConstraintText" 57 yJ0_charAt_5068e ∈ mx_big := mx_bg 573 (by decide +kernel) (by decide +kernel)
theorem sr_w573 : Jvm.Cond.instanceMethod yJ0_charAt_5068e ∈ mx_big := mx_bg 574 (by decide +kernel) (by decide +kernel)
theorem sr_w574 : Jvm.Cond.selects "java/lang/String" yJ0_charAt_5068e yJ0_charAt_5068e ∈ mx_big := mx_bg 575 (by decide +kernel) (by decide +kernel)
theorem sr_w575 : Jvm.Cond.code yJ0_charAt_5068e cJ0_charAt_5068e 2 (some .char) ∈ mx_big := mx_bg 576 (by decide +kernel) (by decide +kernel)
theorem sr_w576 : Jvm.Cond.methodLink "java/lang/String" 492 yJ0_isLatin1_aae02 ∈ mx_big := mx_bg 577 (by decide +kernel) (by decide +kernel)
theorem sr_w577 : Jvm.Cond.instanceMethod yJ0_isLatin1_aae02 ∈ mx_big := mx_bg 578 (by decide +kernel) (by decide +kernel)
theorem sr_w578 : Jvm.Cond.selects "java/lang/String" yJ0_isLatin1_aae02 yJ0_isLatin1_aae02 ∈ mx_big := mx_bg 579 (by decide +kernel) (by decide +kernel)
theorem sr_w579 : Jvm.Cond.code yJ0_isLatin1_aae02 cJ0_isLatin1_aae02 1 (some .boolean) ∈ mx_big := mx_bg 580 (by decide +kernel) (by decide +kernel)
theorem sr_w580 : Jvm.Cond.methodLink "java/lang/String" 495 yJ1_charAt_3b067 ∈ mx_big := mx_bg 581 (by decide +kernel) (by decide +kernel)
theorem sr_w581 : Jvm.Cond.static yJ1_charAt_3b067 ∈ mx_big := mx_bg 582 (by decide +kernel) (by decide +kernel)
theorem sr_w582 : Jvm.Cond.code yJ1_charAt_3b067 cJ1_charAt_3b067 2 (some .char) ∈ mx_big := mx_bg 583 (by decide +kernel) (by decide +kernel)
theorem sr_w583 : Jvm.Cond.methodLink "java/lang/StringLatin1" 9 yJ0_checkIndex_df160 ∈ mx_big := mx_bg 584 (by decide +kernel) (by decide +kernel)
theorem sr_w584 : Jvm.Cond.static yJ0_checkIndex_df160 ∈ mx_big := mx_bg 585 (by decide +kernel) (by decide +kernel)
theorem sr_w585 : Jvm.Cond.code yJ0_checkIndex_df160 cJ0_checkIndex_df160 2 none ∈ mx_big := mx_bg 586 (by decide +kernel) (by decide +kernel)
theorem sr_w586 : Jvm.Cond.fieldLink "java/lang/String" 1053 "jdk/internal/util/Preconditions" "SIOOBE_FORMATTER" "Ljava/util/function/BiFunction;" ∈ mx_big := mx_bg 587 (by decide +kernel) (by decide +kernel)
theorem sr_w588 : Jvm.Cond.methodLink "java/lang/String" 1059 yJ3_checkIndex_8e157 ∈ mx_big := mx_bg 589 (by decide +kernel) (by decide +kernel)
theorem sr_w589 : Jvm.Cond.static yJ3_checkIndex_8e157 ∈ mx_big := mx_bg 590 (by decide +kernel) (by decide +kernel)
theorem sr_w590 : Jvm.Cond.code yJ3_checkIndex_8e157 cJ3_checkIndex_8e157 3 (some .int) ∈ mx_big := mx_bg 591 (by decide +kernel) (by decide +kernel)
theorem sr_w1261 : Jvm.Cond.methodLink "ConstrainedCoderModel" 137 yJ0_length_8abf5 ∈ mx_big := mx_bg 1268 (by decide +kernel) (by decide +kernel)
theorem sr_w1262 : Jvm.Cond.methodLink "ConstrainedCoderModel" 143 yJ0_charAt_5068e ∈ mx_big := mx_bg 1269 (by decide +kernel) (by decide +kernel)
theorem sr_w1443 : Jvm.Cond.fieldLink "java/lang/String" 9 "java/lang/String" "value" "[B" ∈ mx_big := mx_bg 1450 (by decide +kernel) (by decide +kernel)
theorem sr_w1444 : Jvm.Cond.fieldLink "java/lang/String" 15 "java/lang/String" "coder" "B" ∈ mx_big := mx_bg 1451 (by decide +kernel) (by decide +kernel)
theorem sr_len : ∀ i : Nat, i < 2 → ([7, 8] : List Nat).getD i 0 = (mx_str i).length := by decide +kernel
theorem sr_sh : ∀ i : Nat, i < 2 → nI (([7, 8] : List Nat).getD i 0) >>> ((0 : Int32) &&& 31) = nI (mx_str i).length := by decide +kernel
theorem sr_ch : ∀ i : Nat, i < 2 → ∀ j : Nat, j < (mx_str i).length → ((((([[114, 108, 108, 32, 35, 32, 35], [99, 104, 97, 114, 103, 101, 32, 35]] : List (List Int32)).getD i []).getD j 0) &&& 255).toUInt32 % 65536).toInt32 = nI ((mx_str i).getD j 0) ∧ narrow .char (.int (nI ((mx_str i).getD j 0))) = .int (nI ((mx_str i).getD j 0)) := by decide +kernel
theorem sr_coder {l : Launch} {adK adV : Nat → Nat} {i : Nat} (hi : i < 2) : Met l yJ0_coder_7d493 (sr_ws yJ0_coder_7d493 cJ0_coder_7d493 1 (some .byte)) (sr_r 0) (va_Pc [.ref (adK i)] (sr_B adK adV)) (sr_Q (some (.int 0))) 0 0 sr_F := by
  refine sr_head (by decide +kernel) ?_
  intro p e s m below meth c S hret hlk hB
  obtain ⟨hx, hb, hml, hown, hts⟩ := id S
  have hS : va_S sr_F s.heap s.heap [] := va_S.rf
  refine va_gets (own := "java/lang/String") (ref := "java/lang/String") (index := 38) hx hb hB.2.1 hS hown (hts _ sr_w569) (fun _ h => h) (by decide +kernel) ?_
  refine lv_if_eq (off := 10) (tgt := 13) hx hb (by decide +kernel) (by decide) (fun z => absurd z (by decide)) (fun _ => ?_)
  refine lv_aload_n (k := 0) (i := 0) (x := adK i) hx hb (by decide +kernel) rfl rfl ?_
  refine vk_getf (own := "java/lang/String") (ref := "java/lang/String") (index := 15) hx hb (hB.1.1 i hi).2.1 hS hown (hts _ sr_w1444) (fun _ h => h) (by decide +kernel) ?_
  refine lv_goto (off := 4) (tgt := 14) hx hb (by decide +kernel) (by decide) ?_
  exact W.zret hx hb hret (by decide) (fun t ht hW => ⟨rfl, ht⟩) hS.2.2 (by decide +kernel)
theorem sr_latin {l : Launch} {adK adV : Nat → Nat} {i : Nat} (hi : i < 2) : Met l yJ0_isLatin1_aae02 (sr_ws yJ0_isLatin1_aae02 cJ0_isLatin1_aae02 1 (some .boolean)) (sr_r 0) (va_Pc [.ref (adK i)] (sr_B adK adV)) (sr_Q (some (.int 1))) 0 0 sr_F := by
  refine sr_head (by decide +kernel) ?_
  intro p e s m below meth c S hret hlk hB
  obtain ⟨hx, hb, hml, hown, hts⟩ := id S
  have hS : va_S sr_F s.heap s.heap [] := va_S.rf
  refine va_gets (own := "java/lang/String") (ref := "java/lang/String") (index := 38) hx hb hB.2.1 hS hown (hts _ sr_w569) (fun _ h => h) (by decide +kernel) ?_
  refine lv_if_eq (off := 14) (tgt := 17) hx hb (by decide +kernel) (by decide) (fun z => absurd z (by decide)) (fun _ => ?_)
  refine lv_aload_n (k := 0) (i := 0) (x := adK i) hx hb (by decide +kernel) rfl rfl ?_
  refine vk_getf (own := "java/lang/String") (ref := "java/lang/String") (index := 15) hx hb (hB.1.1 i hi).2.1 hS hown (hts _ sr_w1444) (fun _ h => h) (by decide +kernel) ?_
  refine lv_if_ne (off := 7) (tgt := 17) hx hb (by decide +kernel) (by decide) (fun z => absurd rfl z) (fun _ => ?_)
  refine lv_iconst (n := 1) (v := 1) hx hb (by decide +kernel) (by decide) ?_
  refine lv_goto (off := 4) (tgt := 18) hx hb (by decide +kernel) (by decide) ?_
  exact W.zret hx hb hret (by decide) (fun t ht hW => ⟨rfl, ht⟩) hS.2.2 (by decide +kernel)
theorem sr_pre {l : Launch} {j : Int32} {n : Nat} {v : Value} (hn : n < 2 ^ 31) (hj : vp_in j n) (hv : v.isRef = true) : Met l yJ3_checkIndex_8e157 (sr_ws yJ3_checkIndex_8e157 cJ3_checkIndex_8e157 3 (some .int)) (sr_r 0) (va_Pc [.int j, .int (nI n), v] fun _ => True) (sr_Q (some (.int j))) 0 0 sr_F := by
  obtain ⟨h0, h1⟩ := vp_in_iff.mp hj
  refine sr_head (by decide +kernel) ?_
  intro p e s m below meth c S hret hlk hB
  obtain ⟨hx, hb, hml, hown, hts⟩ := id S
  have hS : va_S sr_F s.heap s.heap [] := va_S.rf
  refine lv_iload_n (k := 0) (i := 0) (x := j) hx hb (by decide +kernel) rfl rfl ?_
  refine lv_if_lt (off := 8) (tgt := 9) hx hb (by decide +kernel) (by decide) (fun z => absurd (Int32.lt_iff_toInt_lt.mp z) (by rw [Int32.toInt_zero]; omega)) (fun _ => ?_)
  refine lv_iload_n (k := 0) (i := 0) (x := j) hx hb (by decide +kernel) rfl rfl ?_
  refine lv_iload_n (k := 1) (i := 1) (x := nI n) hx hb (by decide +kernel) rfl rfl ?_
  refine lv_icmp_lt (off := 10) (tgt := 16) hx hb (by decide +kernel) (by decide) (fun _ => ?_) (fun z => absurd (Int32.lt_iff_toInt_lt.mpr (by rw [nI_toInt hn]; exact h1)) z)
  refine lv_iload_n (k := 0) (i := 0) (x := j) hx hb (by decide +kernel) rfl rfl ?_
  exact W.iret hx hb hret (fun t ht hW => ⟨rfl, ht⟩) hS.2.2 (by decide +kernel)
theorem sr_chk {l : Launch} {adK adV : Nat → Nat} {j : Int32} {n : Nat} (hn : n < 2 ^ 31) (hj : vp_in j n) : Met l yJ0_checkIndex_df160 (sr_ws yJ0_checkIndex_df160 cJ0_checkIndex_df160 2 none) (sr_r 1) (va_Pc [.int j, .int (nI n)] (sr_B adK adV)) (sr_Q none) 0 0 sr_F := by
  refine sr_head (by decide +kernel) ?_
  intro p e s m below meth c S hret hlk hB
  obtain ⟨hx, hb, hml, hown, hts⟩ := id S
  have hS : va_S sr_F s.heap s.heap [] := va_S.rf
  obtain ⟨v, hv, hZ⟩ := hB.2.2
  refine lv_iload_n (k := 0) (i := 0) (x := j) hx hb (by decide +kernel) rfl rfl ?_
  refine lv_iload_n (k := 1) (i := 1) (x := nI n) hx hb (by decide +kernel) rfl rfl ?_
  refine va_gets (own := "java/lang/String") (ref := "jdk/internal/util/Preconditions") (index := 1053) hx hb hZ hS hown (hts _ sr_w586) (fun _ h => h) (by decide +kernel) ?_
  refine sr_callS (idx := 1059) (As := [.int j, .int (nI n), v]) (rest := []) S (sr_pre hn hj hv) sr_w590 sr_w73 sr_w588 sr_w589 ⟨by decide, by decide, show _ = some 3 from by decide +kernel⟩ ⟨by decide, by decide⟩ sr_blind0 (fun U _ _ => ⟨rfl, trivial⟩) rfl (by decide) rfl (by decide +kernel) ?_
  refine lv_pop (va := .int j) hx hb (by decide +kernel) rfl ?_
  exact W.vret hx hb hret (fun t ht hW => ⟨rfl, ht⟩) hS.2.2 (by decide +kernel)
theorem sr_lat {l : Launch} {adK adV : Nat → Nat} {i : Nat} (hi : i < 2) {j : Int32} (hj : vp_in j (mx_str i).length) : Met l yJ1_charAt_3b067 (sr_ws yJ1_charAt_3b067 cJ1_charAt_3b067 2 (some .char)) (sr_r 2) (va_Pc [.ref (adV i), .int j] (sr_B adK adV)) (sr_Q (some (.int (nI ((mx_str i).getD j.toNatClampNeg 0))))) 0 0 sr_F := by
  have hn : ([7, 8] : List Nat).getD i 0 < 2 ^ 31 := by
    match i, hi with
    | 0, _ => decide
    | 1, _ => decide
  have hj2 : vp_in j (([7, 8] : List Nat).getD i 0) := by rw [sr_len i hi]; exact hj
  have hlt : j.toNatClampNeg < (mx_str i).length := Nat.not_le.mp fun q => hj (Or.inr q)
  obtain ⟨hc1, hc2⟩ := sr_ch i hi _ hlt
  refine sr_head (by decide +kernel) ?_
  intro p e s m below meth c S hret hlk hB
  obtain ⟨hx, hb, hml, hown, hts⟩ := id S
  have hS : va_S sr_F s.heap s.heap [] := va_S.rf
  have hT := (hB.1.1 i hi).2.2.2
  refine lv_iload_n (k := 1) (i := 1) (x := j) hx hb (by decide +kernel) rfl rfl ?_
  refine lv_aload_n (k := 0) (i := 0) (x := adV i) hx hb (by decide +kernel) rfl rfl ?_
  refine va_tlen hx hb hT hS (v := nI (([7, 8] : List Nat).getD i 0)) rfl (by decide +kernel) ?_
  refine sr_callS (idx := 9) (As := [.int j, .int (nI (([7, 8] : List Nat).getD i 0))]) (rest := []) S (sr_chk (adK := adK) (adV := adV) hn hj2) sr_w585 sr_w71 sr_w583 sr_w584 ⟨by decide, by decide, show _ = some 2 from by decide +kernel⟩ ⟨by decide, by decide⟩ sr_blind (fun U hU hW => ⟨rfl, hB.at hU hW⟩) rfl (by decide) rfl (by decide +kernel) ?_
  refine lv_aload_n (k := 0) (i := 0) (x := adV i) hx hb (by decide +kernel) rfl rfl ?_
  refine lv_iload_n (k := 1) (i := 1) (x := j) hx hb (by decide +kernel) rfl rfl ?_
  refine va_tb hx hb hT hS hj2 rfl (by decide +kernel) ?_
  refine lv_sipush (n := 255) (v := 255) hx hb (by decide +kernel) (by decide) ?_
  refine lv_iand hx hb (by decide +kernel) ?_
  refine lv_i2c hx hb (by decide +kernel) hc1 ?_
  exact W.zret hx hb hret hc2 (fun t ht hW => ⟨rfl, ht⟩) hS.2.2 (by decide +kernel)
theorem sr_length {l : Launch} {adK adV : Nat → Nat} {i : Nat} (hi : i < 2) : Met l yJ0_length_8abf5 (sr_ws yJ0_length_8abf5 cJ0_length_8abf5 1 (some .int)) (sr_r 1) (va_Pc [.ref (adK i)] (sr_B adK adV)) (sr_Q (some (.int (nI (mx_str i).length)))) 0 0 sr_F := by
  refine sr_head (by decide +kernel) ?_
  intro p e s m below meth c S hret hlk hB
  obtain ⟨hx, hb, hml, hown, hts⟩ := id S
  have hS : va_S sr_F s.heap s.heap [] := va_S.rf
  refine lv_aload_n (k := 0) (i := 0) (x := adK i) hx hb (by decide +kernel) rfl rfl ?_
  refine vk_getf (own := "java/lang/String") (ref := "java/lang/String") (index := 9) hx hb (hB.1.1 i hi).2.2.1 hS hown (hts _ sr_w1443) (fun _ h => h) (by decide +kernel) ?_
  refine va_tlen hx hb (hB.1.1 i hi).2.2.2 hS (v := nI (([7, 8] : List Nat).getD i 0)) rfl (by decide +kernel) ?_
  refine lv_aload_n (k := 0) (i := 0) (x := adK i) hx hb (by decide +kernel) rfl rfl ?_
  refine sr_callV (C := "java/lang/String") (idx := 335) (a := adK i) (As := []) (rest := [.int (nI (([7, 8] : List Nat).getD i 0))]) S (sr_coder (adK := adK) (adV := adV) hi) sr_w568 sr_w71 sr_w565 sr_w566 sr_w567 ⟨by decide, by decide, by decide +kernel⟩ ⟨by decide, by decide⟩ sr_blind (vk_recv hB.1 hi hS) (fun U hU hW => ⟨rfl, hB.at hU hW⟩) rfl (Nat.le_of_ble_eq_true rfl) rfl (by decide +kernel) ?_
  refine lv_ishr (x := nI (([7, 8] : List Nat).getD i 0)) (y := 0) hx hb (by decide +kernel) ?_
  exact W.iret hx hb hret (fun t ht hW => ⟨by rw [sr_sh i hi], ht⟩) hS.2.2 (by decide +kernel)
theorem sr_charAt {l : Launch} {adK adV : Nat → Nat} {i : Nat} (hi : i < 2) {j : Int32} (hj : vp_in j (mx_str i).length) : Met l yJ0_charAt_5068e (sr_ws yJ0_charAt_5068e cJ0_charAt_5068e 2 (some .char)) (sr_r 3) (va_Pc [.ref (adK i), .int j] (sr_B adK adV)) (sr_Q (some (.int (nI ((mx_str i).getD j.toNatClampNeg 0))))) 0 0 sr_F := by
  have hlt : j.toNatClampNeg < (mx_str i).length := Nat.not_le.mp fun q => hj (Or.inr q)
  obtain ⟨hc1, hc2⟩ := sr_ch i hi _ hlt
  refine sr_head (by decide +kernel) ?_
  intro p e s m below meth c S hret hlk hB
  obtain ⟨hx, hb, hml, hown, hts⟩ := id S
  have hS : va_S sr_F s.heap s.heap [] := va_S.rf
  refine lv_aload_n (k := 0) (i := 0) (x := adK i) hx hb (by decide +kernel) rfl rfl ?_
  refine sr_callV (C := "java/lang/String") (idx := 492) (a := adK i) (As := []) (rest := []) S (sr_latin (adK := adK) (adV := adV) hi) sr_w579 sr_w71 sr_w576 sr_w577 sr_w578 ⟨by decide, by decide, by decide +kernel⟩ ⟨by decide, by decide⟩ sr_blind (vk_recv hB.1 hi hS) (fun U hU hW => ⟨rfl, hB.at hU hW⟩) rfl (by decide) rfl (by decide +kernel) ?_
  refine lv_if_eq (x := 1) (off := 12) (tgt := 16) hx hb (by decide +kernel) (by decide) (fun z => absurd z (by decide)) (fun _ => ?_)
  refine lv_aload_n (k := 0) (i := 0) (x := adK i) hx hb (by decide +kernel) rfl rfl ?_
  refine vk_getf (own := "java/lang/String") (ref := "java/lang/String") (index := 9) hx hb (hB.1.1 i hi).2.2.1 hS hown (hts _ sr_w1443) (fun _ h => h) (by decide +kernel) ?_
  refine lv_iload_n (k := 1) (i := 1) (x := j) hx hb (by decide +kernel) rfl rfl ?_
  refine sr_callS (idx := 495) (As := [.ref (adV i), .int j]) (rest := []) S (sr_lat (adK := adK) (adV := adV) hi hj) sr_w582 sr_w72 sr_w580 sr_w581 ⟨by decide, by decide, show _ = some 2 from by decide +kernel⟩ ⟨by decide, by decide⟩ sr_blind (fun U hU hW => ⟨rfl, hB.at hU hW⟩) rfl (by decide) rfl (by decide +kernel) ?_
  exact W.zret hx hb hret hc2 (fun t ht hW => ⟨rfl, ht⟩) hS.2.2 (by decide +kernel)
theorem sr_own4 : ∀ q ∈ mx_mls, q.2.2 = 1004 → Jvm.Cond.methodLink q.1 q.2.1 yJ0_length_8abf5 ∈ mx_big := by
  have h : mx_mls.filter (fun q => q.2.2 == 1004) = [("ConstrainedCoder$ConstraintText", 31, 1004), ("ConstrainedCoderModel", 137, 1004)] ∨ mx_mls.filter (fun q => q.2.2 == 1004) = [("ConstrainedCoderModel", 137, 1004), ("ConstrainedCoder$ConstraintText", 31, 1004)] := by decide +kernel
  intro q hq h4
  have hm : q ∈ mx_mls.filter (fun q => q.2.2 == 1004) := List.mem_filter.mpr ⟨hq, by rw [h4]; rfl⟩
  have h2 : q = ("ConstrainedCoder$ConstraintText", 31, 1004) ∨ q = ("ConstrainedCoderModel", 137, 1004) := by
    rcases h with h | h
    · rw [h] at hm
      rcases List.mem_cons.mp hm with rfl | hm
      · exact Or.inl rfl
      · exact Or.inr (List.mem_singleton.mp hm)
    · rw [h] at hm
      rcases List.mem_cons.mp hm with rfl | hm
      · exact Or.inr rfl
      · exact Or.inl (List.mem_singleton.mp hm)
  rcases h2 with rfl | rfl
  · exact sr_w561
  · exact sr_w1261
theorem sr_own5 : ∀ q ∈ mx_mls, q.2.2 = 1005 → Jvm.Cond.methodLink q.1 q.2.1 yJ0_charAt_5068e ∈ mx_big := by
  have h : mx_mls.filter (fun q => q.2.2 == 1005) = [("ConstrainedCoder$ConstraintText", 57, 1005), ("ConstrainedCoderModel", 143, 1005)] ∨ mx_mls.filter (fun q => q.2.2 == 1005) = [("ConstrainedCoderModel", 143, 1005), ("ConstrainedCoder$ConstraintText", 57, 1005)] := by decide +kernel
  intro q hq h4
  have hm : q ∈ mx_mls.filter (fun q => q.2.2 == 1005) := List.mem_filter.mpr ⟨hq, by rw [h4]; rfl⟩
  have h2 : q = ("ConstrainedCoder$ConstraintText", 57, 1005) ∨ q = ("ConstrainedCoderModel", 143, 1005) := by
    rcases h with h | h
    · rw [h] at hm
      rcases List.mem_cons.mp hm with rfl | hm
      · exact Or.inl rfl
      · exact Or.inr (List.mem_singleton.mp hm)
    · rw [h] at hm
      rcases List.mem_cons.mp hm with rfl | hm
      · exact Or.inr rfl
      · exact Or.inl (List.mem_singleton.mp hm)
  rcases h2 with rfl | rfl
  · exact sr_w572
  · exact sr_w1262
/-- THE TWO ROWS -/
theorem sr_rows : mx_StrRows mx_TT mx_big := by
  intro p l e R s m args below meth c H locs Q cc own nL ad A i rest pc ls idx S hsz hStr hS hi hr8 hRf hRl hRc hRs hdg
  obtain ⟨⟨adV, h0⟩, -, -, -, -, h5⟩ := hStr
  have hF : ∀ q, sr_F q → A q := fun q h => h.elim
  have hPU : ∀ U : State, U.heap = H → s.WarmedH U.vm → sr_B (fun i => ad (1000 + i)) adV U := by
    intro U hU hW
    unfold sr_B
    rw [hU]
    exact ⟨((h0.moved hW.alike).kept hS.2.1).narrow hF, ((h5.moved hW.alike).kept hS.2.1).narrow hF⟩
  refine ⟨fun hin kk => ?_, fun hin j hj kk => ?_⟩
  · exact sr_callV (C := "java/lang/String") (idx := idx) (a := ad (1000 + i)) (As := []) (rest := rest) S (sr_length (adK := fun i => ad (1000 + i)) (adV := adV) hi) sr_w564 sr_w71 (sr_own4 _ hin rfl) sr_w562 sr_w563 ⟨by decide, by decide, by decide +kernel⟩ ⟨by omega, by omega⟩ sr_blind (vk_recv (adK := fun i => ad (1000 + i)) (i := i) h0 hi hS) (fun U hU hW => ⟨rfl, hPU U hU hW⟩) hsz hr8 rfl hdg kk
  · exact sr_callV (C := "java/lang/String") (idx := idx) (a := ad (1000 + i)) (As := [.int j]) (rest := rest) S (sr_charAt (adK := fun i => ad (1000 + i)) (adV := adV) hi hj) sr_w575 sr_w71 (sr_own5 _ hin rfl) sr_w573 sr_w574 ⟨by decide, by decide, show _ = some 1 from by decide +kernel⟩ ⟨by omega, by omega⟩ sr_blind (vk_recv (adK := fun i => ad (1000 + i)) (i := i) h0 hi hS) (fun U hU hW => ⟨rfl, hPU U hU hW⟩) hsz hr8 rfl hdg kk
