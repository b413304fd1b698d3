/-! the law's cell, out of the script -/
def qCel : Array Value → State → Outcome → State → Prop := fun _ st oc t => (∃ r : Int32, oc = .returned (some (.int r))) ∧ va_F (fun q => st.heap.size ≤ q) st t
set_option maxHeartbeats 4000000 in
theorem lm_cell {b L i : Nat} {xs : Nat → Int32} (hL : L ≤ 260) (hi : i < 60) (l : Launch) (sz : Nat) : Met l yL_cell (mx_ws mx_big mL_cell) (mx_rmc 1 0 0) (va_Pc [.ref b, .int (nI i)] (fun U => U.heap.size = sz ∧ b < sz ∧ va_X b L xs U U.heap)) qCel 0 0 (fun q => sz ≤ q) := by
  have hm : mx_mt 115 = some mL_cell := rfl
  obtain ⟨⟨_, hpl⟩, _⟩ := lm_ok hm
  refine Met.ofW (cc := cL_cell) (maxL := 2) (ret := some .int) hpl rfl ?_
  intro p e s m args below meth c s₁ B hml hv
  obtain ⟨rfl, hsz, hbl, hX⟩ := hv
  subst hsz
  have hx := B.exec
  have hb := B.bytes
  have hr := B.returns
  have hA : ∀ q : Nat, s.heap.size ≤ q → (fun q => s.heap.size ≤ q) q := fun _ h => h
  have hbA : ¬ (fun q => s.heap.size ≤ q) b := Nat.not_le.mpr hbl
  have hS : va_S (fun q => s.heap.size ≤ q) s.heap s.heap [] := va_S.rf
  have hlk := B.notSynchronized
  rw [lg_entry_eq]
  have hl := lv_entry ([.ref b, .int (nI i)]) (n := 2) (Nat.le_of_ble_eq_true rfl)
  generalize (lg_sl ([.ref b, .int (nI i)]) ++ List.replicate (2 - (lg_sl ([.ref b, .int (nI i)])).length) Slot.unset).toArray = ls at hl ⊢
  have hl : lv_has ls 2 [(0, .ref b), (1, .int (nI i))] := hl
  have fin : ∀ x : Int32, W p l e (mx_rmc 1 0 0) s m #[Value.ref b, .int (nI i)] below meth c s.heap [] 0 0 (MQ below qCel #[Value.ref b, .int (nI i)] s 0 0 fun q => s.heap.size ≤ q) (F0 m 31 ls [.int x]) := fun x =>
    W.iret (v := x) hx hb hr (fun t ht hW => ⟨⟨x, rfl⟩, hS.F ht⟩) hS.2.2 (show decode cL_cell 31 = .ok (.ireturn, 1) from by decide +kernel) hlk
  refine lv_aload_n hx hb (show decode cL_cell 0 = .ok (.aload_n 0, 1) from by decide +kernel) rfl (lv_at hl 0 rfl) ?_
  refine va_slen hx hb hX hbl hbA hS (show decode cL_cell 1 = .ok (.arraylength, 1) from by decide +kernel) ?_
  refine lv_if_ne (tgt := 15) hx hb (show decode cL_cell 2 = .ok (.ifCond .ne 13, 3) from by decide +kernel) (by decide) (fun q => ?_) (fun q => ?_)
  · have h0 : 0 < L := by
      rcases Nat.eq_zero_or_pos L with z | z
      · subst z
        exact absurd rfl q
      · exact z
    have hmod := Nat.mod_lt i h0
    have hq : ¬ nI L = 0 := q
    refine lv_aload_n hx hb (show decode cL_cell 15 = .ok (.aload_n 0, 1) from by decide +kernel) rfl (lv_at hl 0 rfl) ?_
    refine lv_iload_n hx hb (show decode cL_cell 16 = .ok (.iload_n 1, 1) from by decide +kernel) rfl (lv_at hl 1 rfl) ?_
    refine lv_aload_n hx hb (show decode cL_cell 17 = .ok (.aload_n 0, 1) from by decide +kernel) rfl (lv_at hl 0 rfl) ?_
    refine va_slen hx hb hX hbl hbA hS (show decode cL_cell 18 = .ok (.arraylength, 1) from by decide +kernel) ?_
    refine lv_irem hx hb (show decode cL_cell 19 = .ok (.irem, 1) from by decide +kernel) hq ?_
    have er : nI i - nI i / Int32.ofNat L * Int32.ofNat L = nI (i % L) := pk_rem (by omega) h0 (by omega)
    rw [er]
    refine va_sld hx hb hX hbl hbA hS (vp_in_nI hmod (by omega)) (show decode cL_cell 20 = .ok (.iaload, 1) from by decide +kernel) ?_
    refine lv_iconst (v := nI 5) hx hb (show decode cL_cell 21 = .ok (.iconst 5, 1) from by decide +kernel) (by decide) ?_
    refine lv_iload_n hx hb (show decode cL_cell 22 = .ok (.iload_n 1, 1) from by decide +kernel) rfl (lv_at hl 1 rfl) ?_
    refine lv_aload_n hx hb (show decode cL_cell 23 = .ok (.aload_n 0, 1) from by decide +kernel) rfl (lv_at hl 0 rfl) ?_
    refine va_slen hx hb hX hbl hbA hS (show decode cL_cell 24 = .ok (.arraylength, 1) from by decide +kernel) ?_
    refine lv_idiv hx hb (show decode cL_cell 25 = .ok (.idiv, 1) from by decide +kernel) hq ?_
    refine lv_imul hx hb (show decode cL_cell 26 = .ok (.imul, 1) from by decide +kernel) ?_
    refine lv_bipush (v := nI 17) hx hb (show decode cL_cell 27 = .ok (.bipush 17, 2) from by decide +kernel) (by decide) ?_
    refine lv_irem hx hb (show decode cL_cell 29 = .ok (.irem, 1) from by decide +kernel) (by decide) ?_
    refine lv_iushr hx hb (show decode cL_cell 30 = .ok (.iushr, 1) from by decide +kernel) rfl ?_
    exact fin _
  · refine lv_bipush (v := nI 71) hx hb (show decode cL_cell 5 = .ok (.bipush 71, 2) from by decide +kernel) (by decide) ?_
    refine lv_iload_n hx hb (show decode cL_cell 7 = .ok (.iload_n 1, 1) from by decide +kernel) rfl (lv_at hl 1 rfl) ?_
    refine lv_imul hx hb (show decode cL_cell 8 = .ok (.imul, 1) from by decide +kernel) ?_
    refine lv_bipush (v := nI 13) hx hb (show decode cL_cell 9 = .ok (.bipush 13, 2) from by decide +kernel) (by decide) ?_
    refine lv_iadd hx hb (show decode cL_cell 11 = .ok (.iadd, 1) from by decide +kernel) ?_
    exact lv_goto hx hb (show decode cL_cell 12 = .ok (.goto 19, 3) from by decide +kernel) (tgt := 31) (by decide) (fin _)
/-- a call of cell out of the law's frame -/
theorem lw_cell {p : Program} {l : Launch} {e : Env} {R : Room} {s : State} {m : MethodId} {args : Array Value} {below : List Frame} {meth : Method} {c : Code} {H : Heap} {locs : List Loc} {cells slots : Nat} {Q : State → Prop} {pc idx : Nat} {ls : Array Slot} {rest : List Value} {A : Nat → Prop} {cc : ByteArray} {own : String} {nL b L i : Nat} {xs : Nat → Int32} (F : CallFix p m c cc nL s args mx_big own) (hL : L ≤ 260) (hi : i < 60) (hX : va_X b L xs s s.heap) (hbl : b < s.heap.size) (hbA : ¬ A b)
    (hlk : Jvm.Cond.methodLink own idx yL_cell ∈ mx_big) (hS : va_S A s.heap H locs) (hAn : ∀ q, s.heap.size ≤ q → A q) (hsz : ls.size = nL) (hr : (rest.map fun v => v.category).sum ≤ 8) (hdg : decode cc pc = .ok (.invokestatic idx, 3)) (hR : 2 ≤ R.frames ∧ 80 ≤ R.locals) (hc : cells ≤ R.cells ∧ slots ≤ R.slots)
    (kk : ∀ (x : Int32) (H1 : Heap) (locs1 : List Loc), va_S A s.heap H1 locs1 → (∀ q : Nat, q < H.size → H1[q]? = H[q]?) → W p l e R s m args below meth c H1 locs1 cells slots Q (F0 m (pc + 3) ls (.int x :: rest))) : W p l e R s m args below meth c H locs cells slots Q (F0 m pc ls (.int (nI i) :: .ref b :: rest)) := by
  have hm : mx_mt 115 = some mL_cell := rfl
  obtain ⟨hok, hcb, hib, hnm, hst2⟩ := mx_hy.2.2.2.2.2.2.2.2.2.2.2.2.2.1 _ _ hm
  have hgood := mx_hy.2.2.2.2.2.2.2.2.2.2.2.2.2.2
  have hts := F.2.2.2.2
  have hGI : GoodIn mx_big (mx_ws mx_big mL_cell) := by
    intro w hw
    rcases List.mem_cons.mp hw with rfl | hw
    · exact ⟨hcb, good_of_word (hgood _ hcb)⟩
    · exact ⟨hw, good_of_word (hgood w hw)⟩
  have hA1 : ∀ q, H.size ≤ q → A q := fun q h => hAn q (Nat.le_trans hS.1 h)
  have hCB : CallB R s args own idx mL_cell.1 mL_cell.2.1 mL_cell.2.2.1 mL_cell.2.2.2.1 (mx_ws mx_big mL_cell) (mx_rmc 1 0 0) 0 0 2 :=
    callB_of 2 hts hGI rfl rfl rfl (hts _ hib) (hts _ hlk) ⟨hnm.1, hnm.2, by decide +kernel⟩ ⟨hR.1, by show 8 + (2 + 11) + 40 * 1 ≤ R.locals; omega⟩
  refine lw_run (mc := 0) (ms := 0) (A1 := fun q => H.size ≤ q) (free := fun q => H.size ≤ q) (rest := rest) (Qc := fun st oc t => st.heap = H ∧ qCel #[Value.ref b, .int (nI i)] st oc t) (fun st oc t h => by
      have := h.2.2
      rw [h.1] at this
      exact this) ?_ hS (fun q _ h => hA1 q h) hA1 ?_
  · have hr0 := va_runS (n := 2) F (lm_cell (b := b) (xs := xs) hL hi l H.size) ⟨hCB, hts _ (by rw [if_pos (show mL_cell.2.2.2.2.1 = true from rfl)] at hst2; exact hst2)⟩ (As := [.ref b, .int (nI i)]) (rest := rest) (g := F0 m pc ls (.int (nI i) :: .ref b :: rest)) (H := H) (locs := locs) (cells := cells) (slots := slots) (e := e) (below := below) (meth := meth)
      ⟨fun a U g mk q => by obtain ⟨q0, q1, q2, q3⟩ := q; exact ⟨q0, q1, q2, va_X.moved (u := U) (U := U.calling g mk a) (Vm.Alike.refl U.vm) q3⟩, fun U hU hW => ⟨rfl, by rw [hU], Nat.lt_of_lt_of_le hbl hS.1, by rw [hU]; exact va_X.moved hW.alike (hX.kept (hS.2.1 b hbl hbA))⟩⟩ rfl rfl hsz rfl (lv_room hr) hdg hc
    intro T hT X
    obtain ⟨v, st₀, t, T', L', h0, X', hL', e1, e2, hQ, st⟩ := hr0 T hT X
    exact ⟨v, st₀, t, T', L', h0, X', hL', e1, e2, ⟨h0, hQ⟩, st⟩
  · rintro v st t H1 locs1 - - - ⟨-, ⟨x, ho⟩, -⟩ hS1 hk1
    cases ho
    exact kk x H1 locs1 hS1 fun q hq => hk1 q hq (Nat.not_le.mpr hq)
