/-! printed by wip/p46/g_bal.py: balanced, walked -/
def mB : mx_M := (yL_balanced, cL_balanced, 4, some .boolean, true, [])
def rmB : Room := { frames := 5, cells := 2, slots := 476, locals := 200 }
def balQ (a : aS) : mx_Po := fun o w' => o = some (.int (nI 1)) ∧ RX w' a
theorem oBal_o {a : aS} (h : a.2.1.1 % 2 = 1) : oBal a = (-(nI 8), a) := if_pos h
theorem oBal_e {a : aS} (h : ¬ a.2.1.1 % 2 = 1) : oBal a = (nI (balJ a.2.1), sWd a (wInv a.2.1 (balJ a.2.1))) := if_neg h
set_option maxHeartbeats 4000000 in
theorem lm_bal {w : mx_Wd} {a : aS} (h : RX w a) (v : vS a) (l : Launch) (ad : Nat → Nat) (cA : Nat → ClassId) (D : va_G) (sz : Nat) : Met l yL_balanced (mx_ws mx_big mB) rmB (mx_Pc ad cA D mx_lX sz [.ref 0] w) (mx_Qc ad cA D mx_lX (balQ a) (va_A (mx_cc ad cA mx_lX w) sz)) 2 476 (va_A (mx_cc ad cA mx_lX w) sz) := by
  refine Met.ofW (cc := cL_balanced) (maxL := 4) (ret := some .boolean) (by decide +kernel) rfl ?_
  intro p e s m args below meth c s₁ B hml hv
  obtain ⟨rfl, hsz, hP, hK, hD0, hStr⟩ := hv
  subst hsz
  have hts := atoms_spec (ws := mx_ws mx_big mB) B.pre
  have hown : s.vm.findClass "ConstrainedCoderLaw" = some m.cls := findClass_of_methodNamed B.named
  have hx := B.exec
  have hb := B.bytes
  have hr := B.returns
  have hlk := B.notSynchronized
  have hxl := v.2.1.1
  have X : lwF p s m (([Value.ref 0].map (mx_cv ad)).toArray) c cL_balanced 4 "ConstrainedCoderLaw" D ad cA (va_A (mx_cc ad cA mx_lX w) s.heap.size) := ⟨⟨hx, hb, hml, hown, fun w hw => hts w (List.mem_cons_of_mem _ hw)⟩, hK, fun w' => mx_cc_D (w := w) hD0.self, fun q h => Or.inr h⟩
  have hN0 : lwN D ad cA a s.heap := ⟨v, w, h, hP⟩
  have hS0 : va_S (va_A (mx_cc ad cA mx_lX w) s.heap.size) s.heap s.heap [] := va_S.rf
  rw [lg_entry_eq]
  have hl := lv_entry ([Value.ref (ad 0)]) (n := 4) (Nat.le_of_ble_eq_true rfl)
  have hl : lv_has ((lg_sl ([Value.ref 0].map (mx_cv ad)) ++ List.replicate (4 - (lg_sl ([Value.ref 0].map (mx_cv ad))).length) Slot.unset).toArray) 4 [(0, .ref (ad 0))] := hl
  generalize (lg_sl ([Value.ref 0].map (mx_cv ad)) ++ List.replicate (4 - (lg_sl ([Value.ref 0].map (mx_cv ad))).length) Slot.unset).toArray = ls at hl ⊢
  have fin : ∀ (H : Heap) (locs : List Loc) (ls : Array Slot) (pc : Nat), lwN D ad cA a H → va_S (va_A (mx_cc ad cA mx_lX w) s.heap.size) s.heap H locs → decode cL_balanced pc = .ok (.ireturn, 1) → W p l e rmB s m (([Value.ref 0].map (mx_cv ad)).toArray) below meth c H locs 2 476 (MQ below (mx_Qc ad cA D mx_lX (balQ a) (va_A (mx_cc ad cA mx_lX w) s.heap.size)) (([Value.ref 0].map (mx_cv ad)).toArray) s 2 476 (va_A (mx_cc ad cA mx_lX w) s.heap.size)) (F0 m pc ls [.int (nI 1)]) := fun H locs ls pc hN hS hdg => by
    obtain ⟨_, w', r', hP'⟩ := hN
    exact W.zret hx hb hr (by decide) (fun t ht hW => ⟨⟨some (.int (nI 1)), w', rfl, ⟨rfl, r'⟩, by rw [ht]; exact hP'⟩, hS.F ht⟩) hS.2.2 hdg hlk
  refine lv_aload_n hx hb (show decode cL_balanced 0 = .ok (.aload_n 0, 1) from by decide +kernel) rfl (lv_at hl 0 rfl) ?_
  refine lw_all X hN0 hS0 (mx_bg 388 (by decide +kernel) (by decide +kernel)) hl.1 (Nat.le_of_ble_eq_true rfl) (show decode cL_balanced 1 = .ok (.invokestatic 131, 3) from by decide +kernel) ⟨Nat.le_of_ble_eq_true rfl, Nat.le_of_ble_eq_true rfl⟩ ⟨Nat.le_of_ble_eq_true rfl, Nat.le_of_ble_eq_true rfl⟩ (fun q1 f1 H1 locs1 hN1 hRq1 hf1 hgeq1 hS1 hk1 => ?_)
  refine lv_astore_n (lv' := [(1, .ref q1), (0, .ref (ad 0))]) hx hb (show decode cL_balanced 4 = .ok (.astore_n 1, 1) from by decide +kernel) rfl hl (by decide) rfl (fun ls hl => ?_)
  refine lv_aload_n hx hb (show decode cL_balanced 5 = .ok (.aload_n 0, 1) from by decide +kernel) rfl (lv_at hl 1 rfl) ?_
  refine lw_cls (id := 21) (mm := mX10_balance) (dd := 4) (asr := []) (r := oBal a) X hN1 hS1 rfl rfl (by decide +kernel) (fun w r => pX_balance (d := 0) r v) (oBal_v v) (mx_bg 859 (by decide +kernel) (by decide +kernel)) (show (parseMethodDescriptor mX10_balance.1.desc).map (fun d => d.parameters.length) = some 0 from by decide +kernel) rfl hl.1 (Nat.le_of_ble_eq_true rfl) (show decode cL_balanced 6 = .ok (.invokevirtual 137, 3) from by decide +kernel) ⟨Nat.le_of_ble_eq_true rfl, Nat.le_of_ble_eq_true rfl⟩ ⟨Nat.le_of_ble_eq_true rfl, Nat.le_of_ble_eq_true rfl⟩ (fun H2 locs2 hN2 hS2 hk2 => ?_)
  have hR2 := hRq1.kept (hk2 q1 hRq1.lt hRq1.2)
  refine lv_istore_n (lv' := [(2, .int (oBal a).1), (1, .ref q1), (0, .ref (ad 0))]) hx hb (show decode cL_balanced 9 = .ok (.istore_n 2, 1) from by decide +kernel) rfl hl (by decide) rfl (fun ls hl => ?_)
  refine lv_aload_n hx hb (show decode cL_balanced 10 = .ok (.aload_n 0, 1) from by decide +kernel) rfl (lv_at hl 2 rfl) ?_
  by_cases c0 : a.2.1.1 % 2 = 1
  · rw [oBal_o c0] at hN2 hl
    refine lw_cls (id := 18) (mm := mX10_wordLength) (dd := 2) (asr := []) (r := (nI a.2.1.1, a)) X hN2 hS2 rfl rfl (by decide +kernel) (fun w r => pX_wordLength (d := 0) r) v (mx_bg 401 (by decide +kernel) (by decide +kernel)) (show (parseMethodDescriptor mX10_wordLength.1.desc).map (fun d => d.parameters.length) = some 0 from by decide +kernel) rfl hl.1 (Nat.le_of_ble_eq_true rfl) (show decode cL_balanced 11 = .ok (.invokevirtual 19, 3) from by decide +kernel) ⟨Nat.le_of_ble_eq_true rfl, Nat.le_of_ble_eq_true rfl⟩ ⟨Nat.le_of_ble_eq_true rfl, Nat.le_of_ble_eq_true rfl⟩ (fun H3 locs3 hN3 hS3 hk3 => ?_)
    refine lv_iconst (v := nI 2) hx hb (show decode cL_balanced 14 = .ok (.iconst (2), 1) from by decide +kernel) (by decide) ?_
    refine lv_irem hx hb (show decode cL_balanced 15 = .ok (.irem, 1) from by decide +kernel) (by decide) ?_
    rw [pk_rem (by omega) (by omega) (by omega), c0]
    refine lv_iconst (v := nI 1) hx hb (show decode cL_balanced 16 = .ok (.iconst (1), 1) from by decide +kernel) (by decide) ?_
    refine lv_icmp_ne (tgt := 32) hx hb (show decode cL_balanced 17 = .ok (.if_icmp .ne 15, 3) from by decide +kernel) (by decide) (fun z => absurd rfl z) (fun _ => ?_)
    refine lv_iload_n hx hb (show decode cL_balanced 20 = .ok (.iload_n 2, 1) from by decide +kernel) rfl (lv_at hl 0 rfl) ?_
    refine lv_bipush (v := -(nI 8)) hx hb (show decode cL_balanced 21 = .ok (.bipush (-8), 2) from by decide +kernel) (by decide) ?_
    refine lv_icmp_ne (tgt := 30) hx hb (show decode cL_balanced 23 = .ok (.if_icmp .ne 7, 3) from by decide +kernel) (by decide) (fun z => absurd rfl z) (fun _ => ?_)
    refine lv_iconst (v := nI 1) hx hb (show decode cL_balanced 26 = .ok (.iconst (1), 1) from by decide +kernel) (by decide) ?_
    refine lv_goto hx hb (show decode cL_balanced 27 = .ok (.goto (4), 3) from by decide +kernel) (tgt := 31) (by decide) ?_
    refine W.widen (k := 2) (n := 476) (Nat.le_of_ble_eq_true rfl) (Nat.le_of_ble_eq_true rfl) ?_
    exact fin _ _ _ 31 hN3 hS3 (by decide +kernel)
  · obtain ⟨j1, j2, -⟩ := balJ_i v.2.1 (by omega)
    have j2 : 2 * onW (wInv a.2.1 (balJ a.2.1)) = a.2.1.1 := by
      have := beq_iff_eq.mp j2
      exact this
    rw [oBal_e c0] at hN2 hl
    have v1 : vS (sWd a (wInv a.2.1 (balJ a.2.1))) := sWd_v v (wInv_v v.2.1)
    refine lw_cls (id := 18) (mm := mX10_wordLength) (dd := 2) (asr := []) (r := (nI (sWd a (wInv a.2.1 (balJ a.2.1))).2.1.1, sWd a (wInv a.2.1 (balJ a.2.1)))) X hN2 hS2 rfl rfl (by decide +kernel) (fun w r => pX_wordLength (d := 0) r) v1 (mx_bg 401 (by decide +kernel) (by decide +kernel)) (show (parseMethodDescriptor mX10_wordLength.1.desc).map (fun d => d.parameters.length) = some 0 from by decide +kernel) rfl hl.1 (Nat.le_of_ble_eq_true rfl) (show decode cL_balanced 11 = .ok (.invokevirtual 19, 3) from by decide +kernel) ⟨Nat.le_of_ble_eq_true rfl, Nat.le_of_ble_eq_true rfl⟩ ⟨Nat.le_of_ble_eq_true rfl, Nat.le_of_ble_eq_true rfl⟩ (fun H3 locs3 hN3 hS3 hk3 => ?_)
    have hR3 := hR2.kept (hk3 q1 hR2.lt hR2.2)
    have eL : (sWd a (wInv a.2.1 (balJ a.2.1))).2.1.1 = a.2.1.1 := rfl
    rw [eL]
    refine lv_iconst (v := nI 2) hx hb (show decode cL_balanced 14 = .ok (.iconst (2), 1) from by decide +kernel) (by decide) ?_
    refine lv_irem hx hb (show decode cL_balanced 15 = .ok (.irem, 1) from by decide +kernel) (by decide) ?_
    rw [pk_rem (by omega) (by omega) (by omega)]
    refine lv_iconst (v := nI 1) hx hb (show decode cL_balanced 16 = .ok (.iconst (1), 1) from by decide +kernel) (by decide) ?_
    refine lv_icmp_ne (tgt := 32) hx hb (show decode cL_balanced 17 = .ok (.if_icmp .ne 15, 3) from by decide +kernel) (by decide) (fun _ => ?_) (fun z => absurd ((nI_eq (by omega) (by omega)).mp z) c0)
    refine lv_aload_n hx hb (show decode cL_balanced 32 = .ok (.aload_n 0, 1) from by decide +kernel) rfl (lv_at hl 2 rfl) ?_
    refine lv_iconst (v := nI 0) hx hb (show decode cL_balanced 33 = .ok (.iconst (0), 1) from by decide +kernel) (by decide) ?_
    refine lw_cls (id := 22) (mm := mX10_invert) (dd := 3) (asr := [.int (nI 0)]) (r := oInv (sWd a (wInv a.2.1 (balJ a.2.1))) (nI 0)) X hN3 hS3 rfl rfl (by decide +kernel) (fun w r => pX_invert (d := 0) r v1) (oInv_v v1) (mx_bg 725 (by decide +kernel) (by decide +kernel)) (show (parseMethodDescriptor mX10_invert.1.desc).map (fun d => d.parameters.length) = some 1 from by decide +kernel) rfl hl.1 (Nat.le_of_ble_eq_true rfl) (show decode cL_balanced 34 = .ok (.invokevirtual 108, 3) from by decide +kernel) ⟨Nat.le_of_ble_eq_true rfl, Nat.le_of_ble_eq_true rfl⟩ ⟨Nat.le_of_ble_eq_true rfl, Nat.le_of_ble_eq_true rfl⟩ (fun H4 locs4 hN4 hS4 hk4 => ?_)
    have hR4 := hR3.kept (hk4 q1 hR3.lt hR3.2)
    have eI : oInv (sWd a (wInv a.2.1 (balJ a.2.1))) (nI 0) = (nI (onW (wInv a.2.1 (balJ a.2.1))), sWd a (wInv a.2.1 (balJ a.2.1))) := by
      rw [oInv_ok v1.2.1 (Nat.zero_le _)]
      show (nI (onW (wInv (wInv a.2.1 (balJ a.2.1)) 0)), sWd (sWd a (wInv a.2.1 (balJ a.2.1))) (wInv (wInv a.2.1 (balJ a.2.1)) 0)) = _
      rw [wInv_0]
      rfl
    rw [eI] at hN4 ⊢
    have hon := onW_le v1.2.1
    have hon : onW (wInv a.2.1 (balJ a.2.1)) ≤ a.2.1.1 := hon
    refine lv_istore_n (lv' := [(3, .int (nI (onW (wInv a.2.1 (balJ a.2.1))))), (2, .int (nI (balJ a.2.1), sWd a (wInv a.2.1 (balJ a.2.1))).1), (1, .ref q1), (0, .ref (ad 0))]) hx hb (show decode cL_balanced 37 = .ok (.istore_n 3, 1) from by decide +kernel) rfl hl (by decide) rfl (fun ls hl => ?_)
    refine lv_iconst (v := nI 2) hx hb (show decode cL_balanced 38 = .ok (.iconst (2), 1) from by decide +kernel) (by decide) ?_
    refine lv_iload_n hx hb (show decode cL_balanced 39 = .ok (.iload_n 3, 1) from by decide +kernel) rfl (lv_at hl 0 rfl) ?_
    refine lv_imul hx hb (show decode cL_balanced 40 = .ok (.imul, 1) from by decide +kernel) ?_
    refine lv_aload_n hx hb (show decode cL_balanced 41 = .ok (.aload_n 0, 1) from by decide +kernel) rfl (lv_at hl 3 rfl) ?_
    rw [pk_mul, j2]
    refine lw_cls (id := 18) (mm := mX10_wordLength) (dd := 2) (asr := []) (r := (nI (sWd a (wInv a.2.1 (balJ a.2.1))).2.1.1, sWd a (wInv a.2.1 (balJ a.2.1)))) X hN4 hS4 rfl rfl (by decide +kernel) (fun w r => pX_wordLength (d := 0) r) v1 (mx_bg 401 (by decide +kernel) (by decide +kernel)) (show (parseMethodDescriptor mX10_wordLength.1.desc).map (fun d => d.parameters.length) = some 0 from by decide +kernel) rfl hl.1 (Nat.le_of_ble_eq_true rfl) (show decode cL_balanced 42 = .ok (.invokevirtual 19, 3) from by decide +kernel) ⟨Nat.le_of_ble_eq_true rfl, Nat.le_of_ble_eq_true rfl⟩ ⟨Nat.le_of_ble_eq_true rfl, Nat.le_of_ble_eq_true rfl⟩ (fun H5 locs5 hN5 hS5 hk5 => ?_)
    have hR5 := hR4.kept (hk5 q1 hR4.lt hR4.2)
    refine lv_icmp_ne (tgt := 74) hx hb (show decode cL_balanced 45 = .ok (.if_icmp .ne 29, 3) from by decide +kernel) (by decide) (fun z => absurd rfl z) (fun _ => ?_)
    refine lv_aload_n hx hb (show decode cL_balanced 48 = .ok (.aload_n 0, 1) from by decide +kernel) rfl (lv_at hl 3 rfl) ?_
    refine lv_iload_n hx hb (show decode cL_balanced 49 = .ok (.iload_n 2, 1) from by decide +kernel) rfl (lv_at hl 1 rfl) ?_
    have eJ : oInv (sWd a (wInv a.2.1 (balJ a.2.1))) (nI (balJ a.2.1)) = (nI (onW a.2.1), a) := by
      rw [oInv_ok v1.2.1 j1]
      show (nI (onW (wInv (wInv a.2.1 (balJ a.2.1)) (balJ a.2.1))), sWd (sWd a (wInv a.2.1 (balJ a.2.1))) (wInv (wInv a.2.1 (balJ a.2.1)) (balJ a.2.1))) = _
      rw [wInv_2 v.2.1 j1]
      rfl
    refine lw_cls (id := 22) (mm := mX10_invert) (dd := 3) (asr := [.int (nI (balJ a.2.1))]) (r := (nI (onW a.2.1), a)) X hN5 hS5 rfl rfl (by decide +kernel) (fun w r => eJ ▸ pX_invert (d := 0) r v1) v (mx_bg 725 (by decide +kernel) (by decide +kernel)) (show (parseMethodDescriptor mX10_invert.1.desc).map (fun d => d.parameters.length) = some 1 from by decide +kernel) rfl hl.1 (Nat.le_of_ble_eq_true rfl) (show decode cL_balanced 50 = .ok (.invokevirtual 108, 3) from by decide +kernel) ⟨Nat.le_of_ble_eq_true rfl, Nat.le_of_ble_eq_true rfl⟩ ⟨Nat.le_of_ble_eq_true rfl, Nat.le_of_ble_eq_true rfl⟩ (fun H6 locs6 hN6 hS6 hk6 => ?_)
    have hR6 := hR5.kept (hk6 q1 hR5.lt hR5.2)
    have hoa := onW_le v.2.1
    refine lv_if_lt (tgt := 74) hx hb (show decode cL_balanced 53 = .ok (.ifCond .lt 21, 3) from by decide +kernel) (by decide) (fun z => absurd z (nI_nn (by omega))) (fun _ => ?_)
    refine lv_aload_n hx hb (show decode cL_balanced 56 = .ok (.aload_n 1, 1) from by decide +kernel) rfl (lv_at hl 2 rfl) ?_
    refine lv_aload_n hx hb (show decode cL_balanced 57 = .ok (.aload_n 0, 1) from by decide +kernel) rfl (lv_at hl 3 rfl) ?_
    refine lw_all X hN6 hS6 (mx_bg 388 (by decide +kernel) (by decide +kernel)) hl.1 (Nat.le_of_ble_eq_true rfl) (show decode cL_balanced 58 = .ok (.invokestatic 131, 3) from by decide +kernel) ⟨Nat.le_of_ble_eq_true rfl, Nat.le_of_ble_eq_true rfl⟩ ⟨Nat.le_of_ble_eq_true rfl, Nat.le_of_ble_eq_true rfl⟩ (fun q2 f2 H7 locs7 hN7 hRq2 hf2 hgeq2 hS7 hk7 => ?_)
    have hR7 := hR6.kept (hk7 q1 hR6.lt hR6.2)
    refine lv_sipush (v := nI 238) hx hb (show decode cL_balanced 61 = .ok (.sipush (238), 3) from by decide +kernel) (by decide) ?_
    have hlt := hR6.lt
    refine lw_same X hN7 hS7 hR7 hRq2 (by omega) (Or.inr hgeq1) (Or.inr (Nat.le_trans hS6.1 hgeq2)) (Nat.le_refl 238) (fun k hk => by rw [hf1 k hk, hf2 k hk]) (mx_bg 448 (by decide +kernel) (by decide +kernel)) hl.1 (Nat.le_of_ble_eq_true rfl) (show decode cL_balanced 64 = .ok (.invokestatic 140, 3) from by decide +kernel) ⟨Nat.le_of_ble_eq_true rfl, Nat.le_of_ble_eq_true rfl⟩ ⟨Nat.le_of_ble_eq_true rfl, Nat.le_of_ble_eq_true rfl⟩ (fun H8 locs8 hN8 hR8 hS8 => ?_)
    refine lv_if_eq (tgt := 74) hx hb (show decode cL_balanced 67 = .ok (.ifCond .eq 7, 3) from by decide +kernel) (by decide) (fun z => absurd z (by decide)) (fun _ => ?_)
    refine lv_iconst (v := nI 1) hx hb (show decode cL_balanced 70 = .ok (.iconst (1), 1) from by decide +kernel) (by decide) ?_
    refine lv_goto hx hb (show decode cL_balanced 71 = .ok (.goto (4), 3) from by decide +kernel) (tgt := 75) (by decide) ?_
    exact fin _ _ _ 75 hN8 hS8 (by decide +kernel)
