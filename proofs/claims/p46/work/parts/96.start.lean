/-! printed by wip/p46/g_law.py: what the start gives; the law from its entry -/
theorem ws_tb {s : State} {args : Array Value} (hts : ∀ w ∈ lw_tbl, w.before args s = true) (i : Nat) {w : Jvm.Cond} (h : lw_tbl[i]? = some w) : w.before args s = true := hts w (List.mem_of_getElem? h)
theorem ws_kn {s : State} {args : Array Value} (hts : ∀ w ∈ mx_big, w.before args s = true) : ∃ D : va_G, ∀ (c : Nat) (q : vw_C), vwCl[c]? = some q → u_Kn s q.1 q.2.1 q.2.2 (D.1 c) (D.2 c) := by
  have h0 : ∀ c : Nat, ∃ z : ClassId × (Nat → Nat), ∀ q : vw_C, vwCl[c]? = some q → u_Kn s q.1 q.2.1 q.2.2 z.1 z.2 := by
    intro c
    have hi : ∀ q : vw_C, vwCl[c]? = some q → ∃ n, Jvm.Cond.instantiable q.1 n ∈ mx_big := by
      intro q hq
      match c, hq with
      | 0, hq => cases hq; exact ⟨2, (mx_bg 219 (by decide +kernel) (by decide +kernel))⟩
      | 1, hq => cases hq; exact ⟨2, (mx_bg 95 (by decide +kernel) (by decide +kernel))⟩
      | 2, hq => cases hq; exact ⟨3, (mx_bg 174 (by decide +kernel) (by decide +kernel))⟩
      | 3, hq => cases hq; exact ⟨7, (mx_bg 191 (by decide +kernel) (by decide +kernel))⟩
      | 4, hq => cases hq; exact ⟨7, (mx_bg 53 (by decide +kernel) (by decide +kernel))⟩
      | 5, hq => cases hq; exact ⟨2, (mx_bg 160 (by decide +kernel) (by decide +kernel))⟩
      | 6, hq => cases hq; exact ⟨9, (mx_bg 108 (by decide +kernel) (by decide +kernel))⟩
      | 7, hq => cases hq; exact ⟨3, (mx_bg 232 (by decide +kernel) (by decide +kernel))⟩
      | 8, hq => cases hq; exact ⟨2, (mx_bg 82 (by decide +kernel) (by decide +kernel))⟩
      | 9, hq => cases hq; exact ⟨2, (mx_bg 144 (by decide +kernel) (by decide +kernel))⟩
      | 10, hq => cases hq; exact ⟨13, (mx_bg 45 (by decide +kernel) (by decide +kernel))⟩
      | n + 11, hq => cases hq
    cases hc : vwCl[c]? with
    | none => exact ⟨(0, fun _ => 0), fun q h => by cases h⟩
    | some q =>
      obtain ⟨n, hn⟩ := hi q hc
      obtain ⟨cC, iS, hK⟩ := u_known hts (k_in (ci := c) (C := q.1) (TT := q.2.1) (N := q.2.2) hc) (hts _ hn)
      exact ⟨(cC, iS), fun q' h => by cases h; exact hK⟩
  obtain ⟨z, hz⟩ := Classical.axiomOfChoice h0
  exact ⟨(fun c => (z c).1, fun c => (z c).2), hz⟩
set_option maxRecDepth 100000 in
set_option maxHeartbeats 8000000 in
theorem whole_start {p : Program} {e : Env} {s : State} {m : MethodId} {below : List Frame} {meth : Method} {c : Code} (l : Launch) (hflags : l.flags = flags0) {b L : Nat} {xs : Nat → Int32} (hL : L ≤ 260) (C0 : lw_At p s m meth c b L xs) : W p l e room_1 s m #[Value.ref b] below meth c s.heap [] 0 0 (lw_Z below #[Value.ref b] s) (entryFrame m ([Value.ref b] : List Value).toArray 11) := by
  obtain ⟨hx, hb, hr, hml, hown, hts, hX, hbl, hlocks, hgv⟩ := id C0
  have hown : s.vm.findClass "ConstrainedCoderLaw" = some m.cls := hown
  have hbig : ∀ w ∈ mx_big, w.before #[Value.ref b] s = true := fun w hw => hts w (List.mem_filter.mp hw).1
  obtain ⟨D, hKn⟩ := ws_kn hbig
  have hK : va_K D vwCl [] s := ⟨hKn, fun k q h => by simp at h⟩
  have hO1 : mm_AO .int s := mm_AO.of (ws_tb hts 114 (by decide +kernel))
  have hO2 : mm_AO .long s := mm_AO.of (ws_tb hts 150 (by decide +kernel))
  have hA : ∀ q : Nat, s.heap.size ≤ q → (fun q => s.heap.size ≤ q) q := fun _ h => h
  have hS : va_S (fun q => s.heap.size ≤ q) s.heap s.heap [] := va_S.rf
  have hP : va_P D vwCl [] s.heap := fun k q h => by simp at h
  have hD : va_D (fun q => s.heap.size ≤ q) [] := ⟨fun i j p q h => by simp at h, fun k q h => by simp at h⟩
  have hl := lv_entry ([.ref b]) (n := 11) (Nat.le_of_ble_eq_true rfl)
  rw [lg_entry_eq]
  generalize (lg_sl ([.ref b]) ++ List.replicate (11 - (lg_sl ([.ref b])).length) Slot.unset).toArray = ls at hl ⊢
  have hl : lv_has ls 11 [(0, .ref b)] := hl
  refine va_new (ci := 10) (fs := [.null, .null, .null, .null, .null, .null, .null, .null, .null, .null, .null, .null, .int 0]) (own := "ConstrainedCoderLaw") (C := RX10) (T := TX10) (N := 13) (index := 8) hx hb hbig (k_in (ci := 10) rfl) tyX10 tyX10_ok hown (hbig _ (mx_bg 44 (by decide +kernel) (by decide +kernel))) (hbig _ (mx_bg 45 (by decide +kernel) (by decide +kernel))) (hbig _ (mx_bg 29 (by decide +kernel) (by decide +kernel))) hK hP hD hS hA rfl (by decide +kernel) (Nat.le_of_ble_eq_true rfl) (Nat.le_of_ble_eq_true rfl) (show decode code 0 = .ok (.new 8, 3) from by decide +kernel) (fun q0 H hP hD hS => ?_)
  have hP : va_P D vwCl ([] ++ [(q0, .inr (10, [.null, .null, .null, .null, .null, .null, .null, .null, .null, .null, .null, .null, .int 0]))]) H := hP
  have hD : va_D (fun q => s.heap.size ≤ q) ([] ++ [(q0, .inr (10, [.null, .null, .null, .null, .null, .null, .null, .null, .null, .null, .null, .null, .int 0]))]) := hD
  refine W.widen (k := 1) (n := 13) (Nat.le_of_ble_eq_true rfl) (Nat.le_of_ble_eq_true rfl) ?_
  refine lv_dup hx hb (show decode code 3 = .ok (.dup, 1) from by decide +kernel) rfl ?_
  have hPc := k_subP hP
  have hDc := k_subD hD
  have hKc := hK.sub (tys' := []) [] rfl
  have hFc := k_free hD hS hA
  refine va_callv (va_runI (index := 144) (As := []) (rest := [.ref q0]) ⟨hx, hb, hml, hown, hbig⟩ (k_X10 l D q0 H.size) (cwI 0 hbig (k_good (mx_bg 48 (by decide +kernel) (by decide +kernel))) rfl rfl rfl (hbig _ (mx_bg 29 (by decide +kernel) (by decide +kernel))) (hbig (.methodLink "ConstrainedCoderLaw" 144 yX10_init) (mx_bg 46 (by decide +kernel) (by decide +kernel))) (hbig _ (mx_bg 47 (by decide +kernel) (by decide +kernel))) rfl (by decide +kernel) ⟨(Nat.le_of_ble_eq_true rfl), (Nat.le_of_ble_eq_true rfl)⟩) ⟨k_blind, fun U hU hW => ⟨rfl, by rw [hU], by rw [hU]; exact hPc, va_K.moved hW.alike hKc, hDc.weaken (fun _ _ _ _ => trivial), hO1.moved hW.alike, hO2.moved hW.alike⟩⟩ rfl rfl hl.1 rfl (lv_room (Nat.le_of_ble_eq_true rfl)) (show decode code 4 = .ok (.invokespecial 144, 3) from by decide +kernel) ⟨(Nat.le_of_ble_eq_true rfl), (Nat.le_of_ble_eq_true rfl)⟩) hS (fun q _ h => hFc q h) hFc (fun u t H1 locs ht hvm hu hB hz1 hk1 hS => ?_)
  obtain ⟨qs, ass, css, hP1, hK1, hD1⟩ := hB
  rw [ht] at hP1
  have hKX := va_K.moved hvm.symm hK1
  obtain ⟨hP, hD⟩ := k_join hP hD hk1 hFc hP1 hD1
  generalize H1 = H at hP hS ⊢
  have hP : va_P D vwCl (kW_X10 q0 qs ass css) H := hP
  have hD : va_D (fun q => s.heap.size ≤ q) (kW_X10 q0 qs ass css) := hD
  rw [eX (sd := fun _ => 0)] at hP hD
  refine W.widen (k := 100) (n := 9000) (Nat.le_of_ble_eq_true rfl) (Nat.le_of_ble_eq_true rfl) ?_
  have e0 : adX q0 qs ass (fun _ => 0) 0 = q0 := rfl
  refine lv_astore_n (lv' := [(1, .ref (adX q0 qs ass (fun _ => 0) 0)), (0, .ref b)]) hx hb (show decode code 7 = .ok (.astore_n 1, 1) from by decide +kernel) rfl hl (by decide) rfl (fun ls hl => ?_)
  refine lv_iconst (v := nI 0) hx hb (show decode code 8 = .ok (.iconst 0, 1) from by decide +kernel) (by decide) ?_
  refine lv_istore_n (lv' := [(2, .int (nI (2 * 0))), (1, .ref (adX q0 qs ass (fun _ => 0) 0)), (0, .ref b)]) hx hb (show decode code 9 = .ok (.istore_n 2, 1) from by decide +kernel) rfl hl (by decide) rfl (fun ls hl => ?_)
  refine lv_iconst (v := nI 0) hx hb (show decode code 10 = .ok (.iconst 0, 1) from by decide +kernel) (by decide) ?_
  refine lv_istore_n (lv' := [(3, .int (nI 0)), (2, .int (nI (2 * 0))), (1, .ref (adX q0 qs ass (fun _ => 0) 0)), (0, .ref b)]) hx hb (show decode code 11 = .ok (.istore_n 3, 1) from by decide +kernel) rfl hl (by decide) rfl (fun ls hl => ?_)
  have X : lwF p s m #[Value.ref b] c code 11 "ConstrainedCoderLaw" D (adX q0 qs ass (fun _ => 0)) (cAX css) (fun q => s.heap.size ≤ q) := ⟨⟨hx, hb, hml, hown, hbig⟩, KX hKX, fun w => mx_cc_D hD, fun _ h => h⟩
  exact ll_loop X hL hX hbl hr hlocks 30 0 100 9000 a0 H locs ls rfl (Nat.le_of_ble_eq_true rfl) (Nat.le_of_ble_eq_true rfl) ⟨a0_v, wX0, st_X, hP⟩ hS hl
