/-! printed by wip/whole/gen9.py: what the start gives; the law from its entry -/
theorem ws_tb {s : State} {args : Array Value} (hts : ∀ w ∈ lw_tbl, w.before args s = true) (i : Nat) {w : Jvm.Cond} (h : lw_tbl[i]? = some w) : w.before args s = true := hts w (List.mem_of_getElem? h)
theorem ws_kn {s : State} {args : Array Value} (hts : ∀ w ∈ mx_big, w.before args s = true) : ∃ D : va_G, ∀ (c : Nat) (q : vw_C), vwCl[c]? = some q → u_Kn s q.1 q.2.1 q.2.2 (D.1 c) (D.2 c) := by
  have h0 : ∀ c : Nat, ∃ z : ClassId × (Nat → Nat), ∀ q : vw_C, vwCl[c]? = some q → u_Kn s q.1 q.2.1 q.2.2 z.1 z.2 := by
    intro c
    have hi : ∀ q : vw_C, vwCl[c]? = some q → ∃ n, Jvm.Cond.instantiable q.1 n ∈ mx_big := by
      intro q hq
      match c, hq with
      | 0, hq => cases hq; exact ⟨2, mx_bg 254 (by decide +kernel) (by decide +kernel)⟩
      | 1, hq => cases hq; exact ⟨2, mx_bg 130 (by decide +kernel) (by decide +kernel)⟩
      | 2, hq => cases hq; exact ⟨3, mx_bg 209 (by decide +kernel) (by decide +kernel)⟩
      | 3, hq => cases hq; exact ⟨7, mx_bg 226 (by decide +kernel) (by decide +kernel)⟩
      | 4, hq => cases hq; exact ⟨7, mx_bg 88 (by decide +kernel) (by decide +kernel)⟩
      | 5, hq => cases hq; exact ⟨2, mx_bg 195 (by decide +kernel) (by decide +kernel)⟩
      | 6, hq => cases hq; exact ⟨9, mx_bg 143 (by decide +kernel) (by decide +kernel)⟩
      | 7, hq => cases hq; exact ⟨3, mx_bg 267 (by decide +kernel) (by decide +kernel)⟩
      | 8, hq => cases hq; exact ⟨2, mx_bg 117 (by decide +kernel) (by decide +kernel)⟩
      | 9, hq => cases hq; exact ⟨2, mx_bg 179 (by decide +kernel) (by decide +kernel)⟩
      | 10, hq => cases hq; exact ⟨13, mx_bg 80 (by decide +kernel) (by decide +kernel)⟩
      | 11, hq => cases hq; exact ⟨38, mx_bg 1038 (by decide +kernel) (by decide +kernel)⟩
      | n + 12, hq => cases hq
    cases hc : vwCl[c]? with
    | none => exact ⟨(0, fun _ => 0), fun q h => by cases h⟩
    | some q =>
      obtain ⟨n, hn⟩ := hi q hc
      obtain ⟨cC, iS, hK⟩ := u_known hts (k_in (ci := c) (C := q.1) (TT := q.2.1) (N := q.2.2) hc) (hts _ hn)
      exact ⟨(cC, iS), fun q' h => by cases h; exact hK⟩
  obtain ⟨z, hz⟩ := Classical.axiomOfChoice h0
  exact ⟨(fun c => (z c).1, fun c => (z c).2), hz⟩
theorem ws_str {s : State} {args : Array Value} (hts : ∀ w ∈ lw_tbl, w.before args s = true) (hgv : (Jvm.Cond.and given_1 narrow_1).before args s = true) : ∃ sd : Nat → Nat, ∀ ad : Nat → Nat, (∀ i, ad (1000 + i) = sd i) → mx_Str ad (lf_A s) s s.heap := by
  have hg := flat_of_before _ hgv
  have hA : ∀ q : Nat, q < s.heap.size → ¬ lf_A s q := fun q h => Nat.not_le.mpr h
  have c2 : ∀ {i : Nat}, i < 2 → i = 0 ∨ i = 1 := fun h => by omega
  obtain ⟨sd, adV, hS, hE⟩ := vk_Sof (args := args) (s := s) (N := 2) (tm := fun i => .string "ConstrainedCoder$ConstraintText" (23 + 6 * i)) (len := [7, 8]) (byt := [[114, 108, 108, 32, 35, 32, 35], [99, 104, 97, 114, 103, 101, 32, 35]]) (A := lf_A s)
    (fun i hi => by rcases c2 hi with rfl | rfl <;> decide)
    (fun i hi => by rcases c2 hi with rfl | rfl <;> exact hg _ (by decide +kernel))
    (fun i hi => by rcases c2 hi with rfl | rfl <;> exact hg _ (by decide +kernel))
    (fun i hi => by rcases c2 hi with rfl | rfl <;> exact hg _ (by decide +kernel))
    (fun i hi => by rcases c2 hi with rfl | rfl <;> exact hg _ (by decide +kernel))
    (fun i hi j hj => by
      rcases c2 hi with rfl | rfl
      · match j, hj with
        | 0, _ => exact hg _ (by decide +kernel)
        | 1, _ => exact hg _ (by decide +kernel)
        | 2, _ => exact hg _ (by decide +kernel)
        | 3, _ => exact hg _ (by decide +kernel)
        | 4, _ => exact hg _ (by decide +kernel)
        | 5, _ => exact hg _ (by decide +kernel)
        | 6, _ => exact hg _ (by decide +kernel)
        | n + 7, h => exact absurd h (Nat.not_lt.mpr (Nat.le_add_left 7 n))
      · match j, hj with
        | 0, _ => exact hg _ (by decide +kernel)
        | 1, _ => exact hg _ (by decide +kernel)
        | 2, _ => exact hg _ (by decide +kernel)
        | 3, _ => exact hg _ (by decide +kernel)
        | 4, _ => exact hg _ (by decide +kernel)
        | 5, _ => exact hg _ (by decide +kernel)
        | 6, _ => exact hg _ (by decide +kernel)
        | 7, _ => exact hg _ (by decide +kernel)
        | n + 8, h => exact absurd h (Nat.not_lt.mpr (Nat.le_add_left 8 n)))
    (fun i j hi hj hij => by
      rcases c2 hi with rfl | rfl
      · rcases c2 hj with rfl | rfl
        · exact absurd rfl hij
        · exact Or.inl (hg _ (by decide +kernel))
      · rcases c2 hj with rfl | rfl
        · exact Or.inr (hg _ (by decide +kernel))
        · exact absurd rfl hij) hA
  have e0 : (Term.string "ConstrainedCoder$ConstraintText" 23).eval args s none [] s = some (.ref (sd 0)) := hE 0 (by decide)
  have e1 : (Term.string "ConstrainedCoder$ConstraintText" 29).eval args s none [] s = some (.ref (sd 1)) := hE 1 (by decide)
  have m0 : (Term.string "ConstrainedCoderModel" 147).eval args s none [] s = some (.ref (sd 0)) := va_eqR (hg (.eq (.string "ConstrainedCoder$ConstraintText" 23) (.string "ConstrainedCoderModel" 147)) (by decide +kernel)) e0
  have m1 : (Term.string "ConstrainedCoderModel" 149).eval args s none [] s = some (.ref (sd 1)) := va_eqR (hg (.eq (.string "ConstrainedCoder$ConstraintText" 29) (.string "ConstrainedCoderModel" 149)) (by decide +kernel)) e1
  have z1 : va_Z "java/lang/String" "COMPACT_STRINGS" "Z" (.int 1) (lf_A s) s s.heap := va_Zof (ws_tb hts 571 (by decide +kernel)) (ws_tb hts 72 (by decide +kernel)) (va_eqt (hg (.eq (.static "java/lang/String" "COMPACT_STRINGS" "Z") (.int 1)) (by decide +kernel))) hA
  have hz := hg (.isRef (.static "jdk/internal/util/Preconditions" "SIOOBE_FORMATTER" "Ljava/util/function/BiFunction;")) (by decide +kernel)
  have z2 : ∃ v : Value, v.isRef = true ∧ (Term.static "jdk/internal/util/Preconditions" "SIOOBE_FORMATTER" "Ljava/util/function/BiFunction;").eval args s none [] s = some v := by
    cases hv : (Term.static "jdk/internal/util/Preconditions" "SIOOBE_FORMATTER" "Ljava/util/function/BiFunction;").eval args s none [] s with
    | none => simp [Cond.before, Cond.holds, Cond.value, hv] at hz
    | some w =>
      simp only [Cond.before, Cond.holds, Cond.value, hv] at hz
      cases w with
      | null => exact ⟨.null, rfl, rfl⟩
      | ref t => exact ⟨.ref t, rfl, rfl⟩
      | _ => simp at hz
  obtain ⟨v, hv1, hv2⟩ := z2
  refine ⟨sd, fun ad had => ?_⟩
  have a0 : ad 1000 = sd 0 := had 0
  have a1 : ad 1001 = sd 1 := had 1
  refine ⟨⟨adV, ?_⟩, ?_, ?_, ?_, ?_, z1, v, hv1, va_Zof (ws_tb hts 588 (by decide +kernel)) (ws_tb hts 74 (by decide +kernel)) hv2 hA⟩
  · rw [show (fun i => ad (1000 + i)) = sd from funext had]
    exact hS
  · rw [a0]
    exact vk_R.of (ws_tb hts 557 (by decide +kernel)) e0
  · rw [a1]
    exact vk_R.of (ws_tb hts 614 (by decide +kernel)) e1
  · rw [a0]
    exact vk_R.of (ws_tb hts 1262 (by decide +kernel)) m0
  · rw [a1]
    exact vk_R.of (ws_tb hts 1263 (by decide +kernel)) m1
theorem adX_s {h : Nat} {qs : Nat → Nat} {ass : Nat → Nat → Nat} {sd : Nat → Nat} (i : Nat) : adX h qs ass sd (1000 + i) = sd i := by
  unfold adX
  rw [Nat.ble_eq_true_of_le (Nat.le_add_right 1000 i)]
  show sd (1000 + i - 1000) = sd i
  rw [Nat.add_sub_cancel_left]
theorem adM_s {h : Nat} {as : Nat → Nat} {sd : Nat → Nat} (i : Nat) : adM h as sd (1000 + i) = sd i := by
  unfold adM
  rw [Nat.ble_eq_true_of_le (Nat.le_add_right 1000 i)]
  show sd (1000 + i - 1000) = sd i
  rw [Nat.add_sub_cancel_left]
theorem ws_key {ad : Nat → Nat} {cA : Nat → ClassId} {lay : mx_Lay} {w w' : mx_Wd} {i : Nat} {p : Nat × va_E} (hp : (mx_cc ad cA lay w')[i]? = some p) : ∃ p', (mx_cc ad cA lay w)[i]? = some p' ∧ p'.1 = p.1 := by
  simp only [mx_cc, List.getElem?_mapIdx, Option.map_eq_some_iff] at hp
  obtain ⟨c, hc, e⟩ := hp
  exact ⟨_, mx_cc_at hc, by rw [← e]⟩
theorem ws_DD {A : Nat → Prop} {aX aM : Nat → Nat} {kX kM : Nat → ClassId} {lX lM : mx_Lay} {v v' : mx_Wd} (h : va_D A (mx_cc aX kX lX v ++ mx_cc aM kM lM v')) (w w' : mx_Wd) : va_D A (mx_cc aX kX lX w ++ mx_cc aM kM lM w') := by
  have h1 : va_D A (mx_cc aX kX lX v) := h.by (fun k => k) (fun k q hk => by
    rw [List.getElem?_append_left (List.getElem?_eq_some_iff.mp hk).1]
    exact hk) (fun i j _ _ e => e)
  have h2 : va_D A (mx_cc aM kM lM v') := h.by (fun k => (mx_cc aX kX lX v).length + k) (fun k q hk => by
    rw [List.getElem?_append_right (Nat.le_add_right _ _), Nat.add_sub_cancel_left]
    exact hk) (fun i j _ _ e => Nat.add_left_cancel e)
  refine va_D.app (mx_cc_D h1) (mx_cc_D h2) (fun i j p q hp hq e => ?_)
  obtain ⟨p', a1, a2⟩ := ws_key (w := v) hp
  obtain ⟨q', b1, b2⟩ := ws_key (w := v') hq
  exact lf_sep h i j p' q' a1 b1 (by rw [a2, b2, e])
set_option maxRecDepth 100000 in
set_option maxHeartbeats 8000000 in
theorem whole_start {p : Program} {e : Env} {s : State} {m : MethodId} {below : List Frame} {meth : Method} {c : Code} (l : Launch) (hflags : l.flags = flags0) {b L : Nat} {xs : Nat → Int32} (hL : L ≤ 3072) (C0 : lw_At p s m meth c b L xs) : W p l e room_1 s m #[Value.ref b] below meth c s.heap [] 0 0 (lw_Z below #[Value.ref b] s) (entryFrame m ([Value.ref b] : List Value).toArray 4) := by
  obtain ⟨hx, hb, hr, hml, hown, hts, hX, hbl, hlocks, hgv⟩ := id C0
  have hown : s.vm.findClass "ConstrainedCoderLaw" = some m.cls := hown
  have hbig : ∀ w ∈ mx_big, w.before #[Value.ref b] s = true := fun w hw => hts w (List.mem_filter.mp hw).1
  obtain ⟨D, hKn⟩ := ws_kn hbig
  obtain ⟨sd, hsd⟩ := ws_str hts hgv
  have hK : va_K D vwCl [] s := ⟨hKn, fun k q h => by simp at h⟩
  have hO1 : mm_AO .int s := mm_AO.of (ws_tb hts 149 (by decide +kernel))
  have hO2 : mm_AO .long s := mm_AO.of (ws_tb hts 185 (by decide +kernel))
  have hA : ∀ q : Nat, s.heap.size ≤ q → lf_A s q := fun _ h => h
  have hS : va_S (lf_A s) s.heap s.heap [] := va_S.rf
  have hP : va_P D vwCl [] s.heap := fun k q h => by simp at h
  have hD : va_D (lf_A s) [] := ⟨fun i j p q h => by simp at h, fun k q h => by simp at h⟩
  have hl := lv_entry ([.ref b]) (n := 4) (Nat.le_of_ble_eq_true rfl)
  rw [lg_entry_eq]
  generalize (lg_sl ([.ref b]) ++ List.replicate (4 - (lg_sl ([.ref b])).length) Slot.unset).toArray = ls at hl ⊢
  have hl : lv_has ls 4 [(0, .ref b)] := hl
  refine va_new (ci := 10) (fs := [.null, .null, .null, .null, .null, .null, .null, .null, .null, .null, .null, .null, .int 0]) (own := "ConstrainedCoderLaw") (C := RX10) (T := TX10) (N := 13) (index := 7) hx hb hbig (k_in (ci := 10) rfl) tyX10 tyX10_ok hown (hbig _ (mx_bg 79 (by decide +kernel) (by decide +kernel))) (hbig _ (mx_bg 80 (by decide +kernel) (by decide +kernel))) (hbig _ (mx_bg 57 (by decide +kernel) (by decide +kernel))) hK hP hD hS hA rfl (by decide +kernel) (Nat.le_of_ble_eq_true rfl) (Nat.le_of_ble_eq_true rfl) (show decode code 0 = .ok (.new 7, 3) from by decide +kernel) (fun q0 H hP hD hS => ?_)
  have hP : va_P D vwCl ([] ++ [(q0, .inr (10, [.null, .null, .null, .null, .null, .null, .null, .null, .null, .null, .null, .null, .int 0]))]) H := hP
  have hD : va_D (lf_A s) ([] ++ [(q0, .inr (10, [.null, .null, .null, .null, .null, .null, .null, .null, .null, .null, .null, .null, .int 0]))]) := hD
  refine W.widen (k := 1) (n := 13) (Nat.le_of_ble_eq_true rfl) (Nat.le_of_ble_eq_true rfl) ?_
  refine lv_dup hx hb (show decode code 3 = .ok (.dup, 1) from by decide +kernel) rfl ?_
  have hPc := k_subP hP
  have hDc := k_subD hD
  have hKc := hK.sub (tys' := []) [] rfl
  have hFc := k_free hD hS hA
  refine va_callv (va_runI (index := 9) (As := []) (rest := [.ref q0]) ⟨hx, hb, hml, hown, hbig⟩ (k_X10 l D q0 H.size) (cwI 0 hbig (k_good (mx_bg 83 (by decide +kernel) (by decide +kernel))) rfl rfl rfl (hbig _ (mx_bg 57 (by decide +kernel) (by decide +kernel))) (hbig (.methodLink "ConstrainedCoderLaw" 9 yX10_init) (mx_bg 81 (by decide +kernel) (by decide +kernel))) (hbig _ (mx_bg 82 (by decide +kernel) (by decide +kernel))) rfl (by decide +kernel) ⟨(Nat.le_of_ble_eq_true rfl), (Nat.le_of_ble_eq_true rfl)⟩) ⟨k_blind, fun U hU hW => ⟨rfl, by rw [hU], by rw [hU]; exact hPc, va_K.moved hW.alike hKc, hDc.weaken (fun _ _ _ _ => trivial), hO1.moved hW.alike, hO2.moved hW.alike⟩⟩ rfl rfl hl.1 rfl (lv_room (Nat.le_of_ble_eq_true rfl)) (show decode code 4 = .ok (.invokespecial 9, 3) from by decide +kernel) ⟨(Nat.le_of_ble_eq_true rfl), (Nat.le_of_ble_eq_true rfl)⟩) hS (fun q _ h => hFc q h) hFc (fun u t H1 locs ht hvm hu hB hz1 hk1 hS => ?_)
  obtain ⟨qs, ass, css, hP1, hK1, hD1⟩ := hB
  rw [ht] at hP1
  have hKX := va_K.moved hvm.symm hK1
  obtain ⟨hP, hD⟩ := k_join hP hD hk1 hFc hP1 hD1
  generalize H1 = H at hP hS ⊢
  have hP : va_P D vwCl (kW_X10 q0 qs ass css) H := hP
  have hD : va_D (lf_A s) (kW_X10 q0 qs ass css) := hD
  refine W.widen (k := 69) (n := 8848) (Nat.le_of_ble_eq_true rfl) (Nat.le_of_ble_eq_true rfl) ?_
  refine lv_astore_n (lv' := [(1, .ref q0), (0, .ref b)]) hx hb (show decode code 7 = .ok (.astore_n 1, 1) from by decide +kernel) rfl hl (by decide) rfl (fun ls hl => ?_)
  refine va_new (ci := 11) (fs := [.int 0, .int 0, .int 0, .null, .null, .null, .null, .int 0, .int 0, .int 0, .int 0, .int 0, .null, .null, .null, .null, .int 0, .null, .int 0, .null, .null, .int 0, .int 0, .int 0, .null, .null, .null, .null, .int 0, .int 0, .null, .null, .null, .null, .null, .null, .null, .null]) (own := "ConstrainedCoderLaw") (C := RX11) (T := TX11) (N := 38) (index := 10) hx hb hbig (k_in (ci := 11) rfl) tyX11 tyX11_ok hown (hbig _ (mx_bg 1037 (by decide +kernel) (by decide +kernel))) (hbig _ (mx_bg 1038 (by decide +kernel) (by decide +kernel))) (hbig _ (mx_bg 68 (by decide +kernel) (by decide +kernel))) hK hP hD hS hA rfl (by decide +kernel) (Nat.le_of_ble_eq_true rfl) (Nat.le_of_ble_eq_true rfl) (show decode code 8 = .ok (.new 10, 3) from by decide +kernel) (fun q1 H hP hD hS => ?_)
  have hP : va_P D vwCl (kW_X10 q0 qs ass css ++ [(q1, .inr (11, [.int 0, .int 0, .int 0, .null, .null, .null, .null, .int 0, .int 0, .int 0, .int 0, .int 0, .null, .null, .null, .null, .int 0, .null, .int 0, .null, .null, .int 0, .int 0, .int 0, .null, .null, .null, .null, .int 0, .int 0, .null, .null, .null, .null, .null, .null, .null, .null]))]) H := hP
  have hD : va_D (lf_A s) (kW_X10 q0 qs ass css ++ [(q1, .inr (11, [.int 0, .int 0, .int 0, .null, .null, .null, .null, .int 0, .int 0, .int 0, .int 0, .int 0, .null, .null, .null, .null, .int 0, .null, .int 0, .null, .null, .int 0, .int 0, .int 0, .null, .null, .null, .null, .int 0, .int 0, .null, .null, .null, .null, .null, .null, .null, .null]))]) := hD
  refine W.widen (k := 70) (n := 8886) (Nat.le_of_ble_eq_true rfl) (Nat.le_of_ble_eq_true rfl) ?_
  refine lv_dup hx hb (show decode code 11 = .ok (.dup, 1) from by decide +kernel) rfl ?_
  have hPc := k_subP hP
  have hDc := k_subD hD
  have hKc := hK.sub (tys' := []) [] rfl
  have hFc := k_free hD hS hA
  refine va_callv (va_runI (index := 12) (As := []) (rest := [.ref q1]) ⟨hx, hb, hml, hown, hbig⟩ (k_X11 l D q1 H.size) (cwI 0 hbig (k_good (mx_bg 1041 (by decide +kernel) (by decide +kernel))) rfl rfl rfl (hbig _ (mx_bg 68 (by decide +kernel) (by decide +kernel))) (hbig (.methodLink "ConstrainedCoderLaw" 12 yX11_init) (mx_bg 1039 (by decide +kernel) (by decide +kernel))) (hbig _ (mx_bg 1040 (by decide +kernel) (by decide +kernel))) rfl (by decide +kernel) ⟨(Nat.le_of_ble_eq_true rfl), (Nat.le_of_ble_eq_true rfl)⟩) ⟨k_blind, fun U hU hW => ⟨rfl, by rw [hU], by rw [hU]; exact hPc, va_K.moved hW.alike hKc, hDc.weaken (fun _ _ _ _ => trivial), hO1.moved hW.alike, hO2.moved hW.alike⟩⟩ rfl rfl hl.1 rfl (lv_room (Nat.le_of_ble_eq_true rfl)) (show decode code 12 = .ok (.invokespecial 12, 3) from by decide +kernel) ⟨(Nat.le_of_ble_eq_true rfl), (Nat.le_of_ble_eq_true rfl)⟩) hS (fun q _ h => hFc q h) hFc (fun u t H1 locs ht hvm hu hB hz1 hk1 hS => ?_)
  obtain ⟨as, cs, hP1, hK1, hD1⟩ := hB
  rw [ht] at hP1
  have hKM := va_K.moved hvm.symm hK1
  obtain ⟨hP, hD⟩ := k_join hP hD hk1 hFc hP1 hD1
  generalize H1 = H at hP hS ⊢
  refine W.widen (k := 600000) (n := 7302250) (Nat.le_of_ble_eq_true rfl) (Nat.le_of_ble_eq_true rfl) ?_
  refine lv_astore_n (lv' := [(2, .ref q1), (1, .ref q0), (0, .ref b)]) hx hb (show decode code 15 = .ok (.astore_n 2, 1) from by decide +kernel) rfl hl (by decide) rfl (fun ls hl => ?_)
  refine lv_iconst (v := nI 0) hx hb (show decode code 16 = .ok (.iconst 0, 1) from by decide +kernel) (by decide) ?_
  refine lv_istore_n (lv' := [(3, .int (nI 0)), (2, .ref q1), (1, .ref q0), (0, .ref b)]) hx hb (show decode code 17 = .ok (.istore_n 3, 1) from by decide +kernel) rfl hl (by decide) rfl (fun ls hl => ?_)
  rw [eX (sd := sd), eM (sd := sd)] at hP hD
  have C : lf_X p s m c b L xs D (adX q0 qs ass sd) (adM q1 as sd) (cAX css) (cAM cs) := ⟨⟨hx, hb, hml, hown, hbig⟩, hX, hbl, hL, KX hKX, KM hKM, hsd _ adX_s, hsd _ adM_s, ws_DD hD⟩
  have N0 : lf_N s b D (adX q0 qs ass sd) (adM q1 as sd) (cAX css) (cAM cs) 0 a0 H locs ls := ⟨a0_v, ⟨wX0, st_X, hP.by (fun k => k) (fun k q hk => by
    rw [List.getElem?_append_left (List.getElem?_eq_some_iff.mp hk).1]
    exact hk)⟩, ⟨wM0, st_M, hP.by (fun k => (mx_cc (adX q0 qs ass sd) (cAX css) mx_lX wX0).length + k) (fun k q hk => by
    rw [List.getElem?_append_right (Nat.le_add_right _ _), Nat.add_sub_cancel_left]
    exact hk)⟩, hS, hl⟩
  refine lf_loop C (fun n a H locs ls h => ?_) (L + 1) 0 a0 H locs ls (by omega) (Nat.zero_le L) N0
  refine lv_iconst (v := 1) hx hb (show decode code 1278 = .ok (.iconst 1, 1) from by decide +kernel) (by decide) ?_
  refine va_forget h.2.2.2.1.2.2 ?_
  exact W.base (lw_ret (Drawn.sameBut.refl s.drawn lw_cs) hx hb hr hlocks (show decode code 1279 = .ok (.ireturn, 1) from by decide +kernel))
