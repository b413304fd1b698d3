/-! printed by wip/p46/g_law.py: the law's rounds, walked -/
theorem and_k (x : Int32) (p : Nat) (hp : p < 31) : ∃ k, k < 2 ^ p ∧ x &&& nI (2 ^ p - 1) = nI k := ⟨_, (and_m x hp).1, (and_m x hp).2⟩
theorem pk_ad (a b : Nat) : nI a + nI b = nI (a + b) := (Int32.ofNat_add a b).symm
theorem and_1 (x : Int32) : ∃ k, k < 2 ∧ x &&& nI 1 = nI k := and_k x 1 (by decide)
theorem and_3 (x : Int32) : ∃ k, k < 4 ∧ x &&& nI 3 = nI k := and_k x 2 (by decide)
theorem zA_k : ∀ {k : Nat}, k < 4 → ∃ z, zA (nI k - nI 1) z
  | 0, _ => ⟨none, Or.inl ⟨by decide, rfl⟩⟩
  | 1, _ => ⟨some 0, Or.inr ⟨0, by decide, by decide, rfl⟩⟩
  | 2, _ => ⟨some 1, Or.inr ⟨1, by decide, by decide, rfl⟩⟩
  | 3, _ => ⟨some 2, Or.inr ⟨2, by decide, by decide, rfl⟩⟩
  | n + 4, h => absurd h (by omega)
theorem oRest_q {a : aS} {g : aG} {x : aW} (h : sSnp a = some (g, x)) : oRest a = (nI (gN g), sGr (sWd a x) g) := by
  unfold sSnp at h
  unfold oRest
  rw [h]
theorem obs_j {a a' : aS} (h1 : a'.1 = a.1) (h2 : a'.2.1 = a.2.1) {k : Nat} (hk : k < 237) : obs a' k = obs a k := by
  unfold obs oEdge oBit
  rw [h1, h2]
  by_cases c1 : k < 4
  · rw [if_pos c1, if_pos c1]
  · rw [if_neg c1, if_neg c1]
    by_cases c2 : k < 196
    · rw [if_pos c2, if_pos c2]
      split
      · split <;> rfl
      · split
        · split <;> rfl
        · split <;> rfl
    · rw [if_neg c2, if_neg c2, if_pos hk, if_pos hk]
      split <;> rfl
section LAW
variable {p : Program} {l : Launch} {e : Env} {s : State} {m : MethodId} {below : List Frame} {meth : Method} {c : Code} {b : Nat} {D : va_G} {aX : Nat → Nat} {kX : Nat → ClassId} {H0 : Heap} {locs0 : List Loc} {ls : Array Slot} {C S : Nat} {i st q : Nat} {z : Int32} {g : aG} {x : aW} {a : aS} {f : Nat → Int32}
set_option maxHeartbeats 4000000 in
/-- 131 to 179: ranks -/
theorem ll_131 (X : lwF p s m #[Value.ref b] c code 11 "ConstrainedCoderLaw" D aX kX (fun q => s.heap.size ≤ q)) (hN0 : lwN D aX kX a H0) (hs : a.1 = g ∧ a.2.1 = x) (hS0 : va_S (fun q => s.heap.size ≤ q) s.heap H0 locs0) (hR0 : lwR D aX q f s H0) (hst : 0 < gN g → st < gN g) (hi : i < 30) (hc : C + 0 ≤ 600000 ∧ S + 0 ≤ 7302250) (hl : lv_has ls 11 [(9, .int (nI st)), (8, .int (nI (gN g))), (6, .ref q), (5, .int z), (3, .int (nI i)), (2, .int (nI (2 * i + 2))), (1, .ref (aX 0)), (0, .ref b)]) (kk : ∀ (a1 : aS) (H1 : Heap) (locs1 : List Loc) (ls1 : Array Slot), lwN D aX kX a1 H1 → sSnp a1 = some (g, x) → va_S (fun q => s.heap.size ≤ q) s.heap H1 locs1 → lwR D aX q f s H1 → lv_has ls1 11 [(10, .int (nI 1)), (9, .int (nI st)), (8, .int (nI (gN g))), (6, .ref q), (5, .int z), (3, .int (nI i)), (2, .int (nI (2 * i + 2))), (1, .ref (aX 0)), (0, .ref b)] → W p l e room_1 s m #[Value.ref b] below meth c H1 locs1 C S (lw_Z below #[Value.ref b] s) (F0 m 179 ls1 [])) : W p l e room_1 s m #[Value.ref b] below meth c H0 locs0 C S (lw_Z below #[Value.ref b] s) (F0 m 131 ls []) := by
  obtain ⟨hx, hb, hml, hown, hts⟩ := id X.1
  have hvS := hN0.1
  obtain ⟨rfl, rfl⟩ := hs
  refine lv_aload_n hx hb (show decode code 131 = .ok (.aload_n 1, 1) from by decide +kernel) rfl (lv_at hl 6 rfl) ?_
  refine lw_cls (id := 34) (mm := mX10_saveSnapshot) (dd := 2) (asr := []) (r := oSave a) X hN0 hS0 rfl rfl (by decide +kernel) (fun w r => pX_saveSnapshot (d := 0) r hvS) (oSave_v hvS) (mx_bg 352 (by decide +kernel) (by decide +kernel)) (show (parseMethodDescriptor mX10_saveSnapshot.1.desc).map (fun d => d.parameters.length) = some 0 from by decide +kernel) rfl hl.1 (Nat.le_of_ble_eq_true rfl) (show decode code 132 = .ok (.invokevirtual 158, 3) from by decide +kernel) ⟨(Nat.le_of_ble_eq_true rfl), (Nat.le_of_ble_eq_true rfl)⟩ ⟨by show _ ≤ 600000; omega, by show _ ≤ 7302250; omega⟩ (fun H1 locs1 hN1 hS1 hk1 => ?_)
  have hR1 := hR0.kept (hk1 q hR0.lt hR0.2)
  refine lv_pop hx hb (show decode code 135 = .ok (.pop, 1) from by decide +kernel) rfl ?_
  have hN1 : lwN D aX kX (sSn a) H1 := hN1
  have hs1 : sSnp (sSn a) = some (a.1, a.2.1) := rfl
  have hv1 := hN1.1
  have j : ∀ (a2 : aS) (H2 : Heap) (locs2 : List Loc) (ls : Array Slot), lwN D aX kX a2 H2 → sSnp a2 = some (a.1, a.2.1) → va_S (fun q => s.heap.size ≤ q) s.heap H2 locs2 → lwR D aX q f s H2 → lv_has ls 11 [(9, .int (nI st)), (8, .int (nI (gN a.1))), (6, .ref q), (5, .int z), (3, .int (nI i)), (2, .int (nI (2 * i + 2))), (1, .ref (aX 0)), (0, .ref b)] → W p l e room_1 s m #[Value.ref b] below meth c H2 locs2 C S (lw_Z below #[Value.ref b] s) (F0 m 172 ls []) := by
    intro a2 H2 locs2 ls hN2 hs2 hS2 hR2 hl
    refine lv_iconst (v := nI 1) hx hb (show decode code 172 = .ok (.iconst (1), 1) from by decide +kernel) (by decide) ?_
    refine lv_goto hx hb (show decode code 173 = .ok (.goto (4), 3) from by decide +kernel) (tgt := 177) (by decide) ?_
    refine lv_istore (lv' := [(10, .int (nI 1)), (9, .int (nI st)), (8, .int (nI (gN a.1))), (6, .ref q), (5, .int z), (3, .int (nI i)), (2, .int (nI (2 * i + 2))), (1, .ref (aX 0)), (0, .ref b)]) hx hb (show decode code 177 = .ok (.istore 10, 2) from by decide +kernel) hl (by decide) rfl (fun ls hl => ?_)
    exact kk a2 H2 locs2 ls hN2 hs2 hS2 hR2 hl
  refine lv_iload hx hb (show decode code 136 = .ok (.iload 8, 2) from by decide +kernel) (lv_at hl 1 rfl) ?_
  refine lv_if_eq (tgt := 172) hx hb (show decode code 138 = .ok (.ifCond .eq 34, 3) from by decide +kernel) (by decide) (fun _ => j (sSn a) H1 locs1 ls hN1 hs1 hS1 hR1 hl) (fun z0 => ?_)
  have hg0 : 0 < gN a.1 := Nat.pos_of_ne_zero fun h => z0 (by rw [h]; decide)
  have hst := hst hg0
  refine lv_iload_n hx hb (show decode code 141 = .ok (.iload_n 3, 1) from by decide +kernel) rfl (lv_at hl 4 rfl) ?_
  refine lv_iconst (v := nI 4) hx hb (show decode code 142 = .ok (.iconst (4), 1) from by decide +kernel) (by decide) ?_
  refine lv_irem hx hb (show decode code 143 = .ok (.irem, 1) from by decide +kernel) (by decide) ?_
  rw [pk_rem (by omega) (by omega) (by omega)]
  refine lv_iconst (v := nI 1) hx hb (show decode code 144 = .ok (.iconst (1), 1) from by decide +kernel) (by decide) ?_
  refine lv_icmp_ne (tgt := 172) hx hb (show decode code 145 = .ok (.if_icmp .ne 27, 3) from by decide +kernel) (by decide) (fun _ => j (sSn a) H1 locs1 ls hN1 hs1 hS1 hR1 hl) (fun _ => ?_)
  obtain ⟨k5, h5, e5⟩ := and_3 (z >>> (nI 5 &&& 31))
  obtain ⟨k7, h7, e7⟩ := and_3 (z >>> (nI 7 &&& 31))
  obtain ⟨z7, hz7⟩ := zA_k h7
  refine lv_aload_n hx hb (show decode code 148 = .ok (.aload_n 1, 1) from by decide +kernel) rfl (lv_at hl 6 rfl) ?_
  refine lv_iload hx hb (show decode code 149 = .ok (.iload 9, 2) from by decide +kernel) (lv_at hl 0 rfl) ?_
  refine lv_iload hx hb (show decode code 151 = .ok (.iload 5, 2) from by decide +kernel) (lv_at hl 3 rfl) ?_
  refine lv_iconst (v := nI 5) hx hb (show decode code 153 = .ok (.iconst (5), 1) from by decide +kernel) (by decide) ?_
  refine lv_ishr hx hb (show decode code 154 = .ok (.ishr, 1) from by decide +kernel) ?_
  refine lv_iconst (v := nI 3) hx hb (show decode code 155 = .ok (.iconst (3), 1) from by decide +kernel) (by decide) ?_
  refine lv_iand hx hb (show decode code 156 = .ok (.iand, 1) from by decide +kernel) ?_
  refine lv_iload hx hb (show decode code 157 = .ok (.iload 5, 2) from by decide +kernel) (lv_at hl 3 rfl) ?_
  refine lv_bipush (v := nI 7) hx hb (show decode code 159 = .ok (.bipush (7), 2) from by decide +kernel) (by decide) ?_
  refine lv_ishr hx hb (show decode code 161 = .ok (.ishr, 1) from by decide +kernel) ?_
  refine lv_iconst (v := nI 3) hx hb (show decode code 162 = .ok (.iconst (3), 1) from by decide +kernel) (by decide) ?_
  refine lv_iand hx hb (show decode code 163 = .ok (.iand, 1) from by decide +kernel) ?_
  refine lv_iconst (v := nI 1) hx hb (show decode code 164 = .ok (.iconst (1), 1) from by decide +kernel) (by decide) ?_
  refine lv_isub hx hb (show decode code 165 = .ok (.isub, 1) from by decide +kernel) ?_
  rw [e5, e7]
  refine lw_sta (id := 119) (mm := mL_ranks) (dd := 8) (mc := 0) (ms := 0) (asr := [.int (nI st), .int (nI k5), .int (nI k7 - nI 1)]) (Qa := lQ (sSn a)) X hN1 hS1 rfl rfl (fun w r => lw_met rfl (fun w r => pL_ranks (d := 0) r hv1 hst (by omega) hz7) w r _) (mx_bg 662 (by decide +kernel) (by decide +kernel)) (show (parseMethodDescriptor mL_ranks.1.desc).map (fun d => d.parameters.length) = some 4 from by decide +kernel) rfl hl.1 (Nat.le_of_ble_eq_true rfl) (show decode code 166 = .ok (.invokestatic 161, 3) from by decide +kernel) ⟨(Nat.le_of_ble_eq_true rfl), (Nat.le_of_ble_eq_true rfl)⟩ ⟨by show _ ≤ 600000; omega, by show _ ≤ 7302250; omega⟩ (fun v2 w2 H2 locs2 hQ2 hP2 hS2 hk2 => ?_)
  obtain ⟨rfl, a2, hr2, hv2, hs2⟩ := hQ2
  refine lv_if_eq (tgt := 176) hx hb (show decode code 169 = .ok (.ifCond .eq 7, 3) from by decide +kernel) (by decide) (fun z => absurd z (by decide)) (fun _ => ?_)
  exact j a2 H2 locs2 ls ⟨hv2, w2, hr2, hP2⟩ (hs2.trans hs1) hS2 (hR1.kept (hk2 q hR1.lt hR1.2)) hl
set_option maxHeartbeats 4000000 in
/-- 179 to 221: powers -/
theorem ll_179 (X : lwF p s m #[Value.ref b] c code 11 "ConstrainedCoderLaw" D aX kX (fun q => s.heap.size ≤ q)) (hN0 : lwN D aX kX a H0) (hs : sSnp a = some (g, x)) (hS0 : va_S (fun q => s.heap.size ≤ q) s.heap H0 locs0) (hR0 : lwR D aX q f s H0) (hst : 0 < gN g → st < gN g) (hi : i < 30) (hc : C + 0 ≤ 600000 ∧ S + 0 ≤ 7302250) (hl : lv_has ls 11 [(10, .int (nI 1)), (9, .int (nI st)), (8, .int (nI (gN g))), (6, .ref q), (5, .int z), (3, .int (nI i)), (2, .int (nI (2 * i + 2))), (1, .ref (aX 0)), (0, .ref b)]) (kk : ∀ (a1 : aS) (H1 : Heap) (locs1 : List Loc) (ls1 : Array Slot), lwN D aX kX a1 H1 → sSnp a1 = some (g, x) → va_S (fun q => s.heap.size ≤ q) s.heap H1 locs1 → lwR D aX q f s H1 → lv_has ls1 11 [(10, .int (nI 1)), (9, .int (nI st)), (8, .int (nI (gN g))), (6, .ref q), (5, .int z), (3, .int (nI i)), (2, .int (nI (2 * i + 2))), (1, .ref (aX 0)), (0, .ref b)] → W p l e room_1 s m #[Value.ref b] below meth c H1 locs1 C S (lw_Z below #[Value.ref b] s) (F0 m 221 ls1 [])) : W p l e room_1 s m #[Value.ref b] below meth c H0 locs0 C S (lw_Z below #[Value.ref b] s) (F0 m 179 ls []) := by
  obtain ⟨hx, hb, hml, hown, hts⟩ := id X.1
  have hvS := hN0.1
  refine lv_aload_n hx hb (show decode code 179 = .ok (.aload_n 1, 1) from by decide +kernel) rfl (lv_at hl 7 rfl) ?_
  refine lw_cls (id := 35) (mm := mX10_restoreSnapshot) (dd := 4) (asr := []) (r := oRest a) X hN0 hS0 rfl rfl (by decide +kernel) (fun w r => pX_restoreSnapshot (d := 0) r hvS) (oRest_v hvS) (mx_bg 368 (by decide +kernel) (by decide +kernel)) (show (parseMethodDescriptor mX10_restoreSnapshot.1.desc).map (fun d => d.parameters.length) = some 0 from by decide +kernel) rfl hl.1 (Nat.le_of_ble_eq_true rfl) (show decode code 180 = .ok (.invokevirtual 165, 3) from by decide +kernel) ⟨(Nat.le_of_ble_eq_true rfl), (Nat.le_of_ble_eq_true rfl)⟩ ⟨by show _ ≤ 600000; omega, by show _ ≤ 7302250; omega⟩ (fun H1 locs1 hN1 hS1 hk1 => ?_)
  have hR1 := hR0.kept (hk1 q hR0.lt hR0.2)
  refine lv_pop hx hb (show decode code 183 = .ok (.pop, 1) from by decide +kernel) rfl ?_
  rw [oRest_q hs] at hN1
  have hN1 : lwN D aX kX (sGr (sWd a x) g) H1 := hN1
  have hs1 : sSnp (sGr (sWd a x) g) = some (g, x) := hs
  have hv1 := hN1.1
  refine lv_iload hx hb (show decode code 184 = .ok (.iload 10, 2) from by decide +kernel) (lv_at hl 0 rfl) ?_
  have j : ∀ (a2 : aS) (H2 : Heap) (locs2 : List Loc) (ls : Array Slot), lwN D aX kX a2 H2 → sSnp a2 = some (g, x) → va_S (fun q => s.heap.size ≤ q) s.heap H2 locs2 → lwR D aX q f s H2 → lv_has ls 11 [(10, .int (nI 1)), (9, .int (nI st)), (8, .int (nI (gN g))), (6, .ref q), (5, .int z), (3, .int (nI i)), (2, .int (nI (2 * i + 2))), (1, .ref (aX 0)), (0, .ref b)] → W p l e room_1 s m #[Value.ref b] below meth c H2 locs2 C S (lw_Z below #[Value.ref b] s) (F0 m 213 ls [.int (nI 1)]) := by
    intro a2 H2 locs2 ls hN2 hs2 hS2 hR2 hl
    refine lv_iconst (v := nI 1) hx hb (show decode code 213 = .ok (.iconst (1), 1) from by decide +kernel) (by decide) ?_
    refine lv_goto hx hb (show decode code 214 = .ok (.goto (4), 3) from by decide +kernel) (tgt := 218) (by decide) ?_
    refine lv_iand hx hb (show decode code 218 = .ok (.iand, 1) from by decide +kernel) ?_
    rw [show nI 1 &&& nI 1 = nI 1 from by decide]
    refine lv_istore (lv' := [(10, .int (nI 1)), (9, .int (nI st)), (8, .int (nI (gN g))), (6, .ref q), (5, .int z), (3, .int (nI i)), (2, .int (nI (2 * i + 2))), (1, .ref (aX 0)), (0, .ref b)]) hx hb (show decode code 219 = .ok (.istore 10, 2) from by decide +kernel) hl (by decide) rfl (fun ls hl => ?_)
    exact kk a2 H2 locs2 ls hN2 hs2 hS2 hR2 hl
  refine lv_iload hx hb (show decode code 186 = .ok (.iload 8, 2) from by decide +kernel) (lv_at hl 2 rfl) ?_
  refine lv_if_eq (tgt := 213) hx hb (show decode code 188 = .ok (.ifCond .eq 25, 3) from by decide +kernel) (by decide) (fun _ => j (sGr (sWd a x) g) H1 locs1 ls hN1 hs1 hS1 hR1 hl) (fun z0 => ?_)
  have hg0 : 0 < gN g := Nat.pos_of_ne_zero fun h => z0 (by rw [h]; decide)
  have hst := hst hg0
  refine lv_iload_n hx hb (show decode code 191 = .ok (.iload_n 3, 1) from by decide +kernel) rfl (lv_at hl 5 rfl) ?_
  refine lv_iconst (v := nI 4) hx hb (show decode code 192 = .ok (.iconst (4), 1) from by decide +kernel) (by decide) ?_
  refine lv_irem hx hb (show decode code 193 = .ok (.irem, 1) from by decide +kernel) (by decide) ?_
  rw [pk_rem (by omega) (by omega) (by omega)]
  refine lv_iconst (v := nI 2) hx hb (show decode code 194 = .ok (.iconst (2), 1) from by decide +kernel) (by decide) ?_
  refine lv_icmp_ne (tgt := 213) hx hb (show decode code 195 = .ok (.if_icmp .ne 18, 3) from by decide +kernel) (by decide) (fun _ => j (sGr (sWd a x) g) H1 locs1 ls hN1 hs1 hS1 hR1 hl) (fun _ => ?_)
  obtain ⟨k1, h1, e1⟩ := and_1 z
  refine lv_aload_n hx hb (show decode code 198 = .ok (.aload_n 1, 1) from by decide +kernel) rfl (lv_at hl 7 rfl) ?_
  refine lv_iload hx hb (show decode code 199 = .ok (.iload 9, 2) from by decide +kernel) (lv_at hl 1 rfl) ?_
  refine lv_iconst (v := nI 1) hx hb (show decode code 201 = .ok (.iconst (1), 1) from by decide +kernel) (by decide) ?_
  refine lv_iload hx hb (show decode code 202 = .ok (.iload 5, 2) from by decide +kernel) (lv_at hl 4 rfl) ?_
  refine lv_iconst (v := nI 1) hx hb (show decode code 204 = .ok (.iconst (1), 1) from by decide +kernel) (by decide) ?_
  refine lv_iand hx hb (show decode code 205 = .ok (.iand, 1) from by decide +kernel) ?_
  refine lv_iadd hx hb (show decode code 206 = .ok (.iadd, 1) from by decide +kernel) ?_
  rw [e1, pk_ad]
  refine lw_sta (id := 120) (mm := mL_powers) (dd := 8) (mc := 0) (ms := 0) (asr := [.int (nI st), .int (nI (1 + k1))]) (Qa := lQ (sGr (sWd a x) g)) X hN1 hS1 rfl rfl (fun w r => lw_met rfl (fun w r => pL_powers (d := 0) r hv1 hst (by omega) (by omega)) w r _) (mx_bg 734 (by decide +kernel) (by decide +kernel)) (show (parseMethodDescriptor mL_powers.1.desc).map (fun d => d.parameters.length) = some 3 from by decide +kernel) rfl hl.1 (Nat.le_of_ble_eq_true rfl) (show decode code 207 = .ok (.invokestatic 168, 3) from by decide +kernel) ⟨(Nat.le_of_ble_eq_true rfl), (Nat.le_of_ble_eq_true rfl)⟩ ⟨by show _ ≤ 600000; omega, by show _ ≤ 7302250; omega⟩ (fun v2 w2 H2 locs2 hQ2 hP2 hS2 hk2 => ?_)
  obtain ⟨rfl, a2, hr2, hv2, hs2⟩ := hQ2
  refine lv_if_eq (tgt := 217) hx hb (show decode code 210 = .ok (.ifCond .eq 7, 3) from by decide +kernel) (by decide) (fun z => absurd z (by decide)) (fun _ => ?_)
  exact j a2 H2 locs2 ls ⟨hv2, w2, hr2, hP2⟩ (hs2.trans hs1) hS2 (hR1.kept (hk2 q hR1.lt hR1.2)) hl
set_option maxHeartbeats 4000000 in
/-- 221 to 266: splits -/
theorem ll_221 (X : lwF p s m #[Value.ref b] c code 11 "ConstrainedCoderLaw" D aX kX (fun q => s.heap.size ≤ q)) (hN0 : lwN D aX kX a H0) (hs : sSnp a = some (g, x)) (hS0 : va_S (fun q => s.heap.size ≤ q) s.heap H0 locs0) (hR0 : lwR D aX q f s H0) (hst : 0 < gN g → st < gN g) (hi : i < 30) (hc : C + 1 ≤ 600000 ∧ S + 16 ≤ 7302250) (hl : lv_has ls 11 [(10, .int (nI 1)), (9, .int (nI st)), (8, .int (nI (gN g))), (6, .ref q), (5, .int z), (3, .int (nI i)), (2, .int (nI (2 * i + 2))), (1, .ref (aX 0)), (0, .ref b)]) (kk : ∀ (a1 : aS) (H1 : Heap) (locs1 : List Loc) (ls1 : Array Slot), lwN D aX kX a1 H1 → sSnp a1 = some (g, x) → va_S (fun q => s.heap.size ≤ q) s.heap H1 locs1 → lwR D aX q f s H1 → lv_has ls1 11 [(10, .int (nI 1)), (9, .int (nI st)), (8, .int (nI (gN g))), (6, .ref q), (5, .int z), (3, .int (nI i)), (2, .int (nI (2 * i + 2))), (1, .ref (aX 0)), (0, .ref b)] → W p l e room_1 s m #[Value.ref b] below meth c H1 locs1 (C + 1) (S + 16) (lw_Z below #[Value.ref b] s) (F0 m 266 ls1 [])) : W p l e room_1 s m #[Value.ref b] below meth c H0 locs0 C S (lw_Z below #[Value.ref b] s) (F0 m 221 ls []) := by
  obtain ⟨hx, hb, hml, hown, hts⟩ := id X.1
  have hvS := hN0.1
  refine lv_aload_n hx hb (show decode code 221 = .ok (.aload_n 1, 1) from by decide +kernel) rfl (lv_at hl 7 rfl) ?_
  refine lw_cls (id := 35) (mm := mX10_restoreSnapshot) (dd := 4) (asr := []) (r := oRest a) X hN0 hS0 rfl rfl (by decide +kernel) (fun w r => pX_restoreSnapshot (d := 0) r hvS) (oRest_v hvS) (mx_bg 368 (by decide +kernel) (by decide +kernel)) (show (parseMethodDescriptor mX10_restoreSnapshot.1.desc).map (fun d => d.parameters.length) = some 0 from by decide +kernel) rfl hl.1 (Nat.le_of_ble_eq_true rfl) (show decode code 222 = .ok (.invokevirtual 165, 3) from by decide +kernel) ⟨(Nat.le_of_ble_eq_true rfl), (Nat.le_of_ble_eq_true rfl)⟩ ⟨by show _ ≤ 600000; omega, by show _ ≤ 7302250; omega⟩ (fun H1 locs1 hN1 hS1 hk1 => ?_)
  have hR1 := hR0.kept (hk1 q hR0.lt hR0.2)
  refine lv_pop hx hb (show decode code 225 = .ok (.pop, 1) from by decide +kernel) rfl ?_
  rw [oRest_q hs] at hN1
  have hN1 : lwN D aX kX (sGr (sWd a x) g) H1 := hN1
  have hs1 : sSnp (sGr (sWd a x) g) = some (g, x) := hs
  have hv1 := hN1.1
  refine lv_iload hx hb (show decode code 226 = .ok (.iload 10, 2) from by decide +kernel) (lv_at hl 0 rfl) ?_
  have j : ∀ (a2 : aS) (H2 : Heap) (locs2 : List Loc) (ls : Array Slot), lwN D aX kX a2 H2 → sSnp a2 = some (g, x) → va_S (fun q => s.heap.size ≤ q) s.heap H2 locs2 → lwR D aX q f s H2 → lv_has ls 11 [(10, .int (nI 1)), (9, .int (nI st)), (8, .int (nI (gN g))), (6, .ref q), (5, .int z), (3, .int (nI i)), (2, .int (nI (2 * i + 2))), (1, .ref (aX 0)), (0, .ref b)] → W p l e room_1 s m #[Value.ref b] below meth c H2 locs2 (C + 1) (S + 16) (lw_Z below #[Value.ref b] s) (F0 m 258 ls [.int (nI 1)]) := by
    intro a2 H2 locs2 ls hN2 hs2 hS2 hR2 hl
    refine lv_iconst (v := nI 1) hx hb (show decode code 258 = .ok (.iconst (1), 1) from by decide +kernel) (by decide) ?_
    refine lv_goto hx hb (show decode code 259 = .ok (.goto (4), 3) from by decide +kernel) (tgt := 263) (by decide) ?_
    refine lv_iand hx hb (show decode code 263 = .ok (.iand, 1) from by decide +kernel) ?_
    rw [show nI 1 &&& nI 1 = nI 1 from by decide]
    refine lv_istore (lv' := [(10, .int (nI 1)), (9, .int (nI st)), (8, .int (nI (gN g))), (6, .ref q), (5, .int z), (3, .int (nI i)), (2, .int (nI (2 * i + 2))), (1, .ref (aX 0)), (0, .ref b)]) hx hb (show decode code 264 = .ok (.istore 10, 2) from by decide +kernel) hl (by decide) rfl (fun ls hl => ?_)
    exact kk a2 H2 locs2 ls hN2 hs2 hS2 hR2 hl
  refine lv_iload hx hb (show decode code 228 = .ok (.iload 8, 2) from by decide +kernel) (lv_at hl 2 rfl) ?_
  refine lv_if_eq (tgt := 258) hx hb (show decode code 230 = .ok (.ifCond .eq 28, 3) from by decide +kernel) (by decide) (fun _ => W.widen (k := (C + 1)) (n := (S + 16)) (by omega) (by omega) (j (sGr (sWd a x) g) H1 locs1 ls hN1 hs1 hS1 hR1 hl)) (fun z0 => ?_)
  have hg0 : 0 < gN g := Nat.pos_of_ne_zero fun h => z0 (by rw [h]; decide)
  have hst := hst hg0
  refine lv_iload_n hx hb (show decode code 233 = .ok (.iload_n 3, 1) from by decide +kernel) rfl (lv_at hl 5 rfl) ?_
  refine lv_iconst (v := nI 4) hx hb (show decode code 234 = .ok (.iconst (4), 1) from by decide +kernel) (by decide) ?_
  refine lv_irem hx hb (show decode code 235 = .ok (.irem, 1) from by decide +kernel) (by decide) ?_
  rw [pk_rem (by omega) (by omega) (by omega)]
  refine lv_iconst (v := nI 3) hx hb (show decode code 236 = .ok (.iconst (3), 1) from by decide +kernel) (by decide) ?_
  refine lv_icmp_ne (tgt := 258) hx hb (show decode code 237 = .ok (.if_icmp .ne 21, 3) from by decide +kernel) (by decide) (fun _ => W.widen (k := (C + 1)) (n := (S + 16)) (by omega) (by omega) (j (sGr (sWd a x) g) H1 locs1 ls hN1 hs1 hS1 hR1 hl)) (fun _ => ?_)
  obtain ⟨k6, h6, e6⟩ := and_3 (z >>> (nI 6 &&& 31))
  have hg16 : gN g ≤ 16 := hv1.1.1
  refine lv_aload_n hx hb (show decode code 240 = .ok (.aload_n 1, 1) from by decide +kernel) rfl (lv_at hl 7 rfl) ?_
  refine lv_iload hx hb (show decode code 241 = .ok (.iload 9, 2) from by decide +kernel) (lv_at hl 1 rfl) ?_
  refine lv_iconst (v := nI 1) hx hb (show decode code 243 = .ok (.iconst (1), 1) from by decide +kernel) (by decide) ?_
  refine lv_iload hx hb (show decode code 244 = .ok (.iload 5, 2) from by decide +kernel) (lv_at hl 4 rfl) ?_
  refine lv_bipush (v := nI 6) hx hb (show decode code 246 = .ok (.bipush (6), 2) from by decide +kernel) (by decide) ?_
  refine lv_ishr hx hb (show decode code 248 = .ok (.ishr, 1) from by decide +kernel) ?_
  refine lv_iconst (v := nI 3) hx hb (show decode code 249 = .ok (.iconst (3), 1) from by decide +kernel) (by decide) ?_
  refine lv_iand hx hb (show decode code 250 = .ok (.iand, 1) from by decide +kernel) ?_
  refine lv_iadd hx hb (show decode code 251 = .ok (.iadd, 1) from by decide +kernel) ?_
  rw [e6, pk_ad]
  refine lw_sta (id := 121) (mm := mL_splits) (dd := 8) (mc := 1) (ms := gN g) (asr := [.int (nI st), .int (nI (1 + k6))]) (Qa := lQ (sGr (sWd a x) g)) X hN1 hS1 rfl rfl (fun w r => lm_splits r hv1 hst (by omega) (by omega) l aX kX D _) (mx_bg 737 (by decide +kernel) (by decide +kernel)) (show (parseMethodDescriptor mL_splits.1.desc).map (fun d => d.parameters.length) = some 3 from by decide +kernel) rfl hl.1 (Nat.le_of_ble_eq_true rfl) (show decode code 252 = .ok (.invokestatic 172, 3) from by decide +kernel) ⟨(Nat.le_of_ble_eq_true rfl), (Nat.le_of_ble_eq_true rfl)⟩ ⟨by show _ ≤ 600000; omega, by show _ ≤ 7302250; omega⟩ (fun v2 w2 H2 locs2 hQ2 hP2 hS2 hk2 => ?_)
  obtain ⟨rfl, a2, hr2, hv2, hs2⟩ := hQ2
  refine W.widen (k := (C + 1)) (n := (S + 16)) (by omega) (by omega) ?_
  refine lv_if_eq (tgt := 262) hx hb (show decode code 255 = .ok (.ifCond .eq 7, 3) from by decide +kernel) (by decide) (fun z => absurd z (by decide)) (fun _ => ?_)
  exact j a2 H2 locs2 ls ⟨hv2, w2, hr2, hP2⟩ (hs2.trans hs1) hS2 (hR1.kept (hk2 q hR1.lt hR1.2)) hl
set_option maxHeartbeats 4000000 in
/-- 266 to 303: encodes -/
theorem ll_266 (X : lwF p s m #[Value.ref b] c code 11 "ConstrainedCoderLaw" D aX kX (fun q => s.heap.size ≤ q)) (hN0 : lwN D aX kX a H0) (hs : sSnp a = some (g, x)) (hS0 : va_S (fun q => s.heap.size ≤ q) s.heap H0 locs0) (hR0 : lwR D aX q f s H0) (hst : 0 < gN g → st < gN g) (hi : i < 30) (hc : C + 1 ≤ 600000 ∧ S + 16 ≤ 7302250) (hl : lv_has ls 11 [(10, .int (nI 1)), (9, .int (nI st)), (8, .int (nI (gN g))), (6, .ref q), (5, .int z), (3, .int (nI i)), (2, .int (nI (2 * i + 2))), (1, .ref (aX 0)), (0, .ref b)]) (kk : ∀ (a1 : aS) (H1 : Heap) (locs1 : List Loc) (ls1 : Array Slot), lwN D aX kX a1 H1 → sSnp a1 = some (g, x) → va_S (fun q => s.heap.size ≤ q) s.heap H1 locs1 → lwR D aX q f s H1 → lv_has ls1 11 [(10, .int (nI 1)), (9, .int (nI st)), (8, .int (nI (gN g))), (6, .ref q), (5, .int z), (3, .int (nI i)), (2, .int (nI (2 * i + 2))), (1, .ref (aX 0)), (0, .ref b)] → W p l e room_1 s m #[Value.ref b] below meth c H1 locs1 (C + 1) (S + 16) (lw_Z below #[Value.ref b] s) (F0 m 303 ls1 [])) : W p l e room_1 s m #[Value.ref b] below meth c H0 locs0 C S (lw_Z below #[Value.ref b] s) (F0 m 266 ls []) := by
  obtain ⟨hx, hb, hml, hown, hts⟩ := id X.1
  have hvS := hN0.1
  refine lv_aload_n hx hb (show decode code 266 = .ok (.aload_n 1, 1) from by decide +kernel) rfl (lv_at hl 7 rfl) ?_
  refine lw_cls (id := 35) (mm := mX10_restoreSnapshot) (dd := 4) (asr := []) (r := oRest a) X hN0 hS0 rfl rfl (by decide +kernel) (fun w r => pX_restoreSnapshot (d := 0) r hvS) (oRest_v hvS) (mx_bg 368 (by decide +kernel) (by decide +kernel)) (show (parseMethodDescriptor mX10_restoreSnapshot.1.desc).map (fun d => d.parameters.length) = some 0 from by decide +kernel) rfl hl.1 (Nat.le_of_ble_eq_true rfl) (show decode code 267 = .ok (.invokevirtual 165, 3) from by decide +kernel) ⟨(Nat.le_of_ble_eq_true rfl), (Nat.le_of_ble_eq_true rfl)⟩ ⟨by show _ ≤ 600000; omega, by show _ ≤ 7302250; omega⟩ (fun H1 locs1 hN1 hS1 hk1 => ?_)
  have hR1 := hR0.kept (hk1 q hR0.lt hR0.2)
  refine lv_pop hx hb (show decode code 270 = .ok (.pop, 1) from by decide +kernel) rfl ?_
  rw [oRest_q hs] at hN1
  have hN1 : lwN D aX kX (sGr (sWd a x) g) H1 := hN1
  have hs1 : sSnp (sGr (sWd a x) g) = some (g, x) := hs
  have hv1 := hN1.1
  refine lv_iload hx hb (show decode code 271 = .ok (.iload 10, 2) from by decide +kernel) (lv_at hl 0 rfl) ?_
  have j : ∀ (a2 : aS) (H2 : Heap) (locs2 : List Loc) (ls : Array Slot), lwN D aX kX a2 H2 → sSnp a2 = some (g, x) → va_S (fun q => s.heap.size ≤ q) s.heap H2 locs2 → lwR D aX q f s H2 → lv_has ls 11 [(10, .int (nI 1)), (9, .int (nI st)), (8, .int (nI (gN g))), (6, .ref q), (5, .int z), (3, .int (nI i)), (2, .int (nI (2 * i + 2))), (1, .ref (aX 0)), (0, .ref b)] → W p l e room_1 s m #[Value.ref b] below meth c H2 locs2 (C + 1) (S + 16) (lw_Z below #[Value.ref b] s) (F0 m 295 ls [.int (nI 1)]) := by
    intro a2 H2 locs2 ls hN2 hs2 hS2 hR2 hl
    refine lv_iconst (v := nI 1) hx hb (show decode code 295 = .ok (.iconst (1), 1) from by decide +kernel) (by decide) ?_
    refine lv_goto hx hb (show decode code 296 = .ok (.goto (4), 3) from by decide +kernel) (tgt := 300) (by decide) ?_
    refine lv_iand hx hb (show decode code 300 = .ok (.iand, 1) from by decide +kernel) ?_
    rw [show nI 1 &&& nI 1 = nI 1 from by decide]
    refine lv_istore (lv' := [(10, .int (nI 1)), (9, .int (nI st)), (8, .int (nI (gN g))), (6, .ref q), (5, .int z), (3, .int (nI i)), (2, .int (nI (2 * i + 2))), (1, .ref (aX 0)), (0, .ref b)]) hx hb (show decode code 301 = .ok (.istore 10, 2) from by decide +kernel) hl (by decide) rfl (fun ls hl => ?_)
    exact kk a2 H2 locs2 ls hN2 hs2 hS2 hR2 hl
  refine lv_iload hx hb (show decode code 273 = .ok (.iload 8, 2) from by decide +kernel) (lv_at hl 2 rfl) ?_
  refine lv_if_eq (tgt := 295) hx hb (show decode code 275 = .ok (.ifCond .eq 20, 3) from by decide +kernel) (by decide) (fun _ => W.widen (k := (C + 1)) (n := (S + 16)) (by omega) (by omega) (j (sGr (sWd a x) g) H1 locs1 ls hN1 hs1 hS1 hR1 hl)) (fun z0 => ?_)
  have hg0 : 0 < gN g := Nat.pos_of_ne_zero fun h => z0 (by rw [h]; decide)
  have hst := hst hg0
  obtain ⟨k1, h1, e1⟩ := and_1 z
  refine lv_aload_n hx hb (show decode code 278 = .ok (.aload_n 1, 1) from by decide +kernel) rfl (lv_at hl 7 rfl) ?_
  refine lv_iconst (v := nI 1) hx hb (show decode code 279 = .ok (.iconst (1), 1) from by decide +kernel) (by decide) ?_
  refine lv_iload hx hb (show decode code 280 = .ok (.iload 5, 2) from by decide +kernel) (lv_at hl 4 rfl) ?_
  refine lv_iconst (v := nI 1) hx hb (show decode code 282 = .ok (.iconst (1), 1) from by decide +kernel) (by decide) ?_
  refine lv_iand hx hb (show decode code 283 = .ok (.iand, 1) from by decide +kernel) ?_
  refine lv_iadd hx hb (show decode code 284 = .ok (.iadd, 1) from by decide +kernel) ?_
  refine lv_iload hx hb (show decode code 285 = .ok (.iload 9, 2) from by decide +kernel) (lv_at hl 1 rfl) ?_
  refine lv_iload hx hb (show decode code 287 = .ok (.iload 5, 2) from by decide +kernel) (lv_at hl 4 rfl) ?_
  rw [e1, pk_ad]
  refine lw_sta (id := 122) (mm := mL_encodes) (dd := 8) (mc := 1) (ms := 6) (asr := [.int (nI (1 + k1)), .int (nI st), .int z]) (Qa := lQ (sGr (sWd a x) g)) X hN1 hS1 rfl rfl (fun w r => lm_encodes r hv1 (by omega) (by omega) hst l aX kX D _) (mx_bg 741 (by decide +kernel) (by decide +kernel)) (show (parseMethodDescriptor mL_encodes.1.desc).map (fun d => d.parameters.length) = some 4 from by decide +kernel) rfl hl.1 (Nat.le_of_ble_eq_true rfl) (show decode code 289 = .ok (.invokestatic 175, 3) from by decide +kernel) ⟨(Nat.le_of_ble_eq_true rfl), (Nat.le_of_ble_eq_true rfl)⟩ ⟨by show _ ≤ 600000; omega, by show _ ≤ 7302250; omega⟩ (fun v2 w2 H2 locs2 hQ2 hP2 hS2 hk2 => ?_)
  obtain ⟨rfl, a2, hr2, hv2, hs2⟩ := hQ2
  refine W.widen (k := (C + 1)) (n := (S + 16)) (by omega) (by omega) ?_
  refine lv_if_eq (tgt := 299) hx hb (show decode code 292 = .ok (.ifCond .eq 7, 3) from by decide +kernel) (by decide) (fun z => absurd z (by decide)) (fun _ => ?_)
  exact j a2 H2 locs2 ls ⟨hv2, w2, hr2, hP2⟩ (hs2.trans hs1) hS2 (hR1.kept (hk2 q hR1.lt hR1.2)) hl
set_option maxHeartbeats 4000000 in
/-- 303 to 340: grows -/
theorem ll_303 (X : lwF p s m #[Value.ref b] c code 11 "ConstrainedCoderLaw" D aX kX (fun q => s.heap.size ≤ q)) (hN0 : lwN D aX kX a H0) (hs : sSnp a = some (g, x)) (hS0 : va_S (fun q => s.heap.size ≤ q) s.heap H0 locs0) (hR0 : lwR D aX q f s H0) (hst : 0 < gN g → st < gN g) (hi : i < 30) (hc : C + 0 ≤ 600000 ∧ S + 0 ≤ 7302250) (hl : lv_has ls 11 [(10, .int (nI 1)), (9, .int (nI st)), (8, .int (nI (gN g))), (6, .ref q), (5, .int z), (3, .int (nI i)), (2, .int (nI (2 * i + 2))), (1, .ref (aX 0)), (0, .ref b)]) (kk : ∀ (a1 : aS) (H1 : Heap) (locs1 : List Loc) (ls1 : Array Slot), lwN D aX kX a1 H1 → sSnp a1 = some (g, x) → va_S (fun q => s.heap.size ≤ q) s.heap H1 locs1 → lwR D aX q f s H1 → lv_has ls1 11 [(10, .int (nI 1)), (9, .int (nI st)), (8, .int (nI (gN g))), (6, .ref q), (5, .int z), (3, .int (nI i)), (2, .int (nI (2 * i + 2))), (1, .ref (aX 0)), (0, .ref b)] → W p l e room_1 s m #[Value.ref b] below meth c H1 locs1 C S (lw_Z below #[Value.ref b] s) (F0 m 340 ls1 [])) : W p l e room_1 s m #[Value.ref b] below meth c H0 locs0 C S (lw_Z below #[Value.ref b] s) (F0 m 303 ls []) := by
  obtain ⟨hx, hb, hml, hown, hts⟩ := id X.1
  have hvS := hN0.1
  refine lv_iload hx hb (show decode code 303 = .ok (.iload 10, 2) from by decide +kernel) (lv_at hl 0 rfl) ?_
  have hs1 := hs
  have hv1 := hvS
  have hR1 := hR0
  have j : ∀ (a2 : aS) (H2 : Heap) (locs2 : List Loc) (ls : Array Slot), lwN D aX kX a2 H2 → sSnp a2 = some (g, x) → va_S (fun q => s.heap.size ≤ q) s.heap H2 locs2 → lwR D aX q f s H2 → lv_has ls 11 [(10, .int (nI 1)), (9, .int (nI st)), (8, .int (nI (gN g))), (6, .ref q), (5, .int z), (3, .int (nI i)), (2, .int (nI (2 * i + 2))), (1, .ref (aX 0)), (0, .ref b)] → W p l e room_1 s m #[Value.ref b] below meth c H2 locs2 C S (lw_Z below #[Value.ref b] s) (F0 m 332 ls [.int (nI 1)]) := by
    intro a2 H2 locs2 ls hN2 hs2 hS2 hR2 hl
    refine lv_iconst (v := nI 1) hx hb (show decode code 332 = .ok (.iconst (1), 1) from by decide +kernel) (by decide) ?_
    refine lv_goto hx hb (show decode code 333 = .ok (.goto (4), 3) from by decide +kernel) (tgt := 337) (by decide) ?_
    refine lv_iand hx hb (show decode code 337 = .ok (.iand, 1) from by decide +kernel) ?_
    rw [show nI 1 &&& nI 1 = nI 1 from by decide]
    refine lv_istore (lv' := [(10, .int (nI 1)), (9, .int (nI st)), (8, .int (nI (gN g))), (6, .ref q), (5, .int z), (3, .int (nI i)), (2, .int (nI (2 * i + 2))), (1, .ref (aX 0)), (0, .ref b)]) hx hb (show decode code 338 = .ok (.istore 10, 2) from by decide +kernel) hl (by decide) rfl (fun ls hl => ?_)
    exact kk a2 H2 locs2 ls hN2 hs2 hS2 hR2 hl
  refine lv_iload hx hb (show decode code 305 = .ok (.iload 8, 2) from by decide +kernel) (lv_at hl 2 rfl) ?_
  refine lv_if_eq (tgt := 332) hx hb (show decode code 307 = .ok (.ifCond .eq 25, 3) from by decide +kernel) (by decide) (fun _ => j a H0 locs0 ls hN0 hs1 hS0 hR1 hl) (fun z0 => ?_)
  have hg0 : 0 < gN g := Nat.pos_of_ne_zero fun h => z0 (by rw [h]; decide)
  have hst := hst hg0
  refine lv_iload_n hx hb (show decode code 310 = .ok (.iload_n 3, 1) from by decide +kernel) rfl (lv_at hl 5 rfl) ?_
  refine lv_iconst (v := nI 5) hx hb (show decode code 311 = .ok (.iconst (5), 1) from by decide +kernel) (by decide) ?_
  refine lv_irem hx hb (show decode code 312 = .ok (.irem, 1) from by decide +kernel) (by decide) ?_
  rw [pk_rem (by omega) (by omega) (by omega)]
  refine lv_iconst (v := nI 4) hx hb (show decode code 313 = .ok (.iconst (4), 1) from by decide +kernel) (by decide) ?_
  refine lv_icmp_ne (tgt := 332) hx hb (show decode code 314 = .ok (.if_icmp .ne 18, 3) from by decide +kernel) (by decide) (fun _ => j a H0 locs0 ls hN0 hs1 hS0 hR1 hl) (fun _ => ?_)
  obtain ⟨k2, h2, e2⟩ := and_1 (z >>> (nI 2 &&& 31))
  refine lv_aload_n hx hb (show decode code 317 = .ok (.aload_n 1, 1) from by decide +kernel) rfl (lv_at hl 7 rfl) ?_
  refine lv_iconst (v := nI 1) hx hb (show decode code 318 = .ok (.iconst (1), 1) from by decide +kernel) (by decide) ?_
  refine lv_iload hx hb (show decode code 319 = .ok (.iload 5, 2) from by decide +kernel) (lv_at hl 4 rfl) ?_
  refine lv_iconst (v := nI 2) hx hb (show decode code 321 = .ok (.iconst (2), 1) from by decide +kernel) (by decide) ?_
  refine lv_ishr hx hb (show decode code 322 = .ok (.ishr, 1) from by decide +kernel) ?_
  refine lv_iconst (v := nI 1) hx hb (show decode code 323 = .ok (.iconst (1), 1) from by decide +kernel) (by decide) ?_
  refine lv_iand hx hb (show decode code 324 = .ok (.iand, 1) from by decide +kernel) ?_
  refine lv_iadd hx hb (show decode code 325 = .ok (.iadd, 1) from by decide +kernel) ?_
  rw [e2, pk_ad]
  refine lw_sta (id := 123) (mm := mL_grows) (dd := 8) (mc := 0) (ms := 0) (asr := [.int (nI (1 + k2))]) (Qa := lQ a) X hN0 hS0 rfl rfl (fun w r => lw_met rfl (fun w r => pL_grows (d := 0) r hv1 (by omega) (by omega)) w r _) (mx_bg 812 (by decide +kernel) (by decide +kernel)) (show (parseMethodDescriptor mL_grows.1.desc).map (fun d => d.parameters.length) = some 2 from by decide +kernel) rfl hl.1 (Nat.le_of_ble_eq_true rfl) (show decode code 326 = .ok (.invokestatic 178, 3) from by decide +kernel) ⟨(Nat.le_of_ble_eq_true rfl), (Nat.le_of_ble_eq_true rfl)⟩ ⟨by show _ ≤ 600000; omega, by show _ ≤ 7302250; omega⟩ (fun v2 w2 H2 locs2 hQ2 hP2 hS2 hk2 => ?_)
  obtain ⟨rfl, a2, hr2, hv2, hs2⟩ := hQ2
  refine lv_if_eq (tgt := 336) hx hb (show decode code 329 = .ok (.ifCond .eq 7, 3) from by decide +kernel) (by decide) (fun z => absurd z (by decide)) (fun _ => ?_)
  exact j a2 H2 locs2 ls ⟨hv2, w2, hr2, hP2⟩ (hs2.trans hs1) hS2 (hR1.kept (hk2 q hR1.lt hR1.2)) hl
set_option maxHeartbeats 4000000 in
/-- 89 to 131 -/
theorem ll_89 (X : lwF p s m #[Value.ref b] c code 11 "ConstrainedCoderLaw" D aX kX (fun q => s.heap.size ≤ q)) (hN0 : lwN D aX kX a H0) (hS0 : va_S (fun q => s.heap.size ≤ q) s.heap H0 locs0) (hi : i < 30) (hc : C + 3 ≤ 600000 ∧ S + 714 ≤ 7302250) (hl : lv_has ls 11 [(5, .int z), (3, .int (nI i)), (2, .int (nI (2 * i + 2))), (1, .ref (aX 0)), (0, .ref b)]) (kk : ∀ (q st : Nat) (f : Nat → Int32) (H1 : Heap) (locs1 : List Loc) (ls1 : Array Slot), lwN D aX kX a H1 → va_S (fun q => s.heap.size ≤ q) s.heap H1 locs1 → lwR D aX q f s H1 → s.heap.size ≤ q → (∀ k, k < 238 → f k = obs a k) → (0 < gN a.1 → st < gN a.1) → lv_has ls1 11 [(9, .int (nI st)), (8, .int (nI (gN a.1))), (6, .ref q), (5, .int z), (3, .int (nI i)), (2, .int (nI (2 * i + 2))), (1, .ref (aX 0)), (0, .ref b)] → W p l e room_1 s m #[Value.ref b] below meth c H1 locs1 (C + 3) (S + 714) (lw_Z below #[Value.ref b] s) (F0 m 131 ls1 [])) : W p l e room_1 s m #[Value.ref b] below meth c H0 locs0 C S (lw_Z below #[Value.ref b] s) (F0 m 89 ls []) := by
  obtain ⟨hx, hb, hml, hown, hts⟩ := id X.1
  have hvS := hN0.1
  have hgn := hvS.1.1
  refine lv_aload_n hx hb (show decode code 89 = .ok (.aload_n 1, 1) from by decide +kernel) rfl (lv_at hl 3 rfl) ?_
  refine lw_all X hN0 hS0 (mx_bg 388 (by decide +kernel) (by decide +kernel)) hl.1 (Nat.le_of_ble_eq_true rfl) (show decode code 90 = .ok (.invokestatic 131, 3) from by decide +kernel) ⟨(Nat.le_of_ble_eq_true rfl), (Nat.le_of_ble_eq_true rfl)⟩ ⟨by show _ ≤ 600000; omega, by show _ ≤ 7302250; omega⟩ (fun q f H1 locs1 hN1 hRq hf hgeq hS1 hk1 => ?_)
  refine lv_astore (lv' := [(6, .ref q), (5, .int z), (3, .int (nI i)), (2, .int (nI (2 * i + 2))), (1, .ref (aX 0)), (0, .ref b)]) hx hb (show decode code 93 = .ok (.astore 6, 2) from by decide +kernel) hl (by decide) rfl (fun ls hl => ?_)
  refine lv_aload_n hx hb (show decode code 95 = .ok (.aload_n 1, 1) from by decide +kernel) rfl (lv_at hl 4 rfl) ?_
  refine lw_cls (id := 6) (mm := mX10_stateCount) (dd := 2) (asr := []) (r := (nI (gN a.1), a)) X hN1 hS1 rfl rfl (by decide +kernel) (fun w r => pX_stateCount (d := 0) r) hvS (mx_bg 289 (by decide +kernel) (by decide +kernel)) (show (parseMethodDescriptor mX10_stateCount.1.desc).map (fun d => d.parameters.length) = some 0 from by decide +kernel) rfl hl.1 (Nat.le_of_ble_eq_true rfl) (show decode code 96 = .ok (.invokevirtual 7, 3) from by decide +kernel) ⟨(Nat.le_of_ble_eq_true rfl), (Nat.le_of_ble_eq_true rfl)⟩ ⟨by show _ ≤ 600000; omega, by show _ ≤ 7302250; omega⟩ (fun H2 locs2 hN2 hS2 hk2 => ?_)
  have hR2 := hRq.kept (hk2 q hRq.lt hRq.2)
  refine lv_istore (lv' := [(8, .int (nI (gN a.1))), (6, .ref q), (5, .int z), (3, .int (nI i)), (2, .int (nI (2 * i + 2))), (1, .ref (aX 0)), (0, .ref b)]) hx hb (show decode code 99 = .ok (.istore 8, 2) from by decide +kernel) hl (by decide) rfl (fun ls hl => ?_)
  have j : ∀ (st : Nat) (ls : Array Slot), (0 < gN a.1 → st < gN a.1) → lv_has ls 11 [(8, .int (nI (gN a.1))), (6, .ref q), (5, .int z), (3, .int (nI i)), (2, .int (nI (2 * i + 2))), (1, .ref (aX 0)), (0, .ref b)] → W p l e room_1 s m #[Value.ref b] below meth c H2 locs2 (C + 1) (S + 238) (lw_Z below #[Value.ref b] s) (F0 m 120 ls [.int (nI st)]) := by
    intro st ls hst hl
    refine lv_istore (lv' := [(9, .int (nI st)), (8, .int (nI (gN a.1))), (6, .ref q), (5, .int z), (3, .int (nI i)), (2, .int (nI (2 * i + 2))), (1, .ref (aX 0)), (0, .ref b)]) hx hb (show decode code 120 = .ok (.istore 9, 2) from by decide +kernel) hl (by decide) rfl (fun ls hl => ?_)
    refine lv_aload_n hx hb (show decode code 122 = .ok (.aload_n 1, 1) from by decide +kernel) rfl (lv_at hl 6 rfl) ?_
    refine lw_bal X hN2 hS2 (mx_bg 856 (by decide +kernel) (by decide +kernel)) hl.1 (Nat.le_of_ble_eq_true rfl) (show decode code 123 = .ok (.invokestatic 154, 3) from by decide +kernel) ⟨(Nat.le_of_ble_eq_true rfl), (Nat.le_of_ble_eq_true rfl)⟩ ⟨by show _ ≤ 600000; omega, by show _ ≤ 7302250; omega⟩ (fun H3 locs3 hN3 hS3 hk3 => ?_)
    have hR3 := hR2.kept (hk3 q hR2.lt hR2.2)
    refine lv_if_ne (tgt := 131) hx hb (show decode code 126 = .ok (.ifCond .ne 5, 3) from by decide +kernel) (by decide) (fun _ => ?_) (fun z => absurd z (by decide))
    exact kk q st f H3 locs3 ls hN3 hS3 hR3 (Nat.le_trans hS0.1 hgeq) hf hst hl
  refine lv_iload hx hb (show decode code 101 = .ok (.iload 8, 2) from by decide +kernel) (lv_at hl 0 rfl) ?_
  refine lv_if_ne (tgt := 110) hx hb (show decode code 103 = .ok (.ifCond .ne 7, 3) from by decide +kernel) (by decide) (fun z0 => ?_) (fun z0 => ?_)
  · have hg0 : 0 < gN a.1 := Nat.pos_of_ne_zero fun h => z0 (by rw [h]; decide)
    obtain ⟨k, hk, ek⟩ := and_15 (z >>> (nI 3 &&& 31))
    refine lv_iload hx hb (show decode code 110 = .ok (.iload 5, 2) from by decide +kernel) (lv_at hl 2 rfl) ?_
    refine lv_iconst (v := nI 3) hx hb (show decode code 112 = .ok (.iconst (3), 1) from by decide +kernel) (by decide) ?_
    refine lv_ishr hx hb (show decode code 113 = .ok (.ishr, 1) from by decide +kernel) ?_
    refine lv_bipush (v := nI 15) hx hb (show decode code 114 = .ok (.bipush (15), 2) from by decide +kernel) (by decide) ?_
    refine lv_iand hx hb (show decode code 116 = .ok (.iand, 1) from by decide +kernel) ?_
    rw [ek]
    refine lv_iload hx hb (show decode code 117 = .ok (.iload 8, 2) from by decide +kernel) (lv_at hl 0 rfl) ?_
    refine lv_irem hx hb (show decode code 119 = .ok (.irem, 1) from by decide +kernel) (fun h => z0 (by rw [← h])) ?_
    rw [pk_rem (by omega) hg0 (by omega)]
    exact j _ ls (fun _ => Nat.mod_lt _ hg0) hl
  · refine lv_iconst (v := nI 0) hx hb (show decode code 106 = .ok (.iconst (0), 1) from by decide +kernel) (by decide) ?_
    refine lv_goto hx hb (show decode code 107 = .ok (.goto (13), 3) from by decide +kernel) (tgt := 120) (by decide) ?_
    exact j 0 ls (fun h => absurd ((nI_eq (a := gN a.1) (b := 0) (by omega) (by omega)).mp (by rw [nI_0]; exact z0)) (by omega)) hl
set_option maxHeartbeats 4000000 in
/-- 340 to 12 -/
theorem ll_340 (X : lwF p s m #[Value.ref b] c code 11 "ConstrainedCoderLaw" D aX kX (fun q => s.heap.size ≤ q)) (hN0 : lwN D aX kX a H0) (hs : sSnp a = some (g, x)) (hS0 : va_S (fun q => s.heap.size ≤ q) s.heap H0 locs0) (hR0 : lwR D aX q f s H0) (hq : s.heap.size ≤ q) {a0 : aS} (hf : ∀ k, k < 238 → f k = obs a0 k) (h0 : a0.1 = g ∧ a0.2.1 = x) (hi : i < 30) (hc : C + 1 ≤ 600000 ∧ S + 238 ≤ 7302250) (hl : lv_has ls 11 [(10, .int (nI 1)), (9, .int (nI st)), (8, .int (nI (gN g))), (6, .ref q), (5, .int z), (3, .int (nI i)), (2, .int (nI (2 * i + 2))), (1, .ref (aX 0)), (0, .ref b)]) (kk : ∀ (a1 : aS) (H1 : Heap) (locs1 : List Loc) (ls1 : Array Slot), lwN D aX kX a1 H1 → va_S (fun q => s.heap.size ≤ q) s.heap H1 locs1 → lv_has ls1 11 [(3, .int (nI (i + 1))), (2, .int (nI (2 * (i + 1)))), (1, .ref (aX 0)), (0, .ref b)] → W p l e room_1 s m #[Value.ref b] below meth c H1 locs1 (C + 1) (S + 238) (lw_Z below #[Value.ref b] s) (F0 m 12 ls1 [])) : W p l e room_1 s m #[Value.ref b] below meth c H0 locs0 C S (lw_Z below #[Value.ref b] s) (F0 m 340 ls []) := by
  obtain ⟨hx, hb, hml, hown, hts⟩ := id X.1
  have hvS := hN0.1
  refine lv_aload_n hx hb (show decode code 340 = .ok (.aload_n 1, 1) from by decide +kernel) rfl (lv_at hl 7 rfl) ?_
  refine lw_cls (id := 35) (mm := mX10_restoreSnapshot) (dd := 4) (asr := []) (r := oRest a) X hN0 hS0 rfl rfl (by decide +kernel) (fun w r => pX_restoreSnapshot (d := 0) r hvS) (oRest_v hvS) (mx_bg 368 (by decide +kernel) (by decide +kernel)) (show (parseMethodDescriptor mX10_restoreSnapshot.1.desc).map (fun d => d.parameters.length) = some 0 from by decide +kernel) rfl hl.1 (Nat.le_of_ble_eq_true rfl) (show decode code 341 = .ok (.invokevirtual 165, 3) from by decide +kernel) ⟨(Nat.le_of_ble_eq_true rfl), (Nat.le_of_ble_eq_true rfl)⟩ ⟨by show _ ≤ 600000; omega, by show _ ≤ 7302250; omega⟩ (fun H1 locs1 hN1 hS1 hk1 => ?_)
  have hR1 := hR0.kept (hk1 q hR0.lt hR0.2)
  refine lv_pop hx hb (show decode code 344 = .ok (.pop, 1) from by decide +kernel) rfl ?_
  rw [oRest_q hs] at hN1
  have hN1 : lwN D aX kX (sGr (sWd a x) g) H1 := hN1
  refine lv_iload hx hb (show decode code 345 = .ok (.iload 10, 2) from by decide +kernel) (lv_at hl 0 rfl) ?_
  refine lv_if_eq (tgt := 365) hx hb (show decode code 347 = .ok (.ifCond .eq 18, 3) from by decide +kernel) (by decide) (fun z => absurd z (by decide)) (fun _ => ?_)
  refine lv_aload hx hb (show decode code 350 = .ok (.aload 6, 2) from by decide +kernel) (lv_at hl 3 rfl) ?_
  refine lv_aload_n hx hb (show decode code 352 = .ok (.aload_n 1, 1) from by decide +kernel) rfl (lv_at hl 7 rfl) ?_
  refine lw_all X hN1 hS1 (mx_bg 388 (by decide +kernel) (by decide +kernel)) hl.1 (Nat.le_of_ble_eq_true rfl) (show decode code 353 = .ok (.invokestatic 131, 3) from by decide +kernel) ⟨(Nat.le_of_ble_eq_true rfl), (Nat.le_of_ble_eq_true rfl)⟩ ⟨by show _ ≤ 600000; omega, by show _ ≤ 7302250; omega⟩ (fun q2 f2 H2 locs2 hN2 hRq2 hf2 hgeq2 hS2 hk2 => ?_)
  have hR2 := hR1.kept (hk2 q hR1.lt hR1.2)
  have hlt := hR1.lt
  refine lv_sipush (v := nI 237) hx hb (show decode code 356 = .ok (.sipush (237), 3) from by decide +kernel) (by decide) ?_
  refine lw_same X hN2 hS2 hR2 hRq2 (by omega) hq (Nat.le_trans hS1.1 hgeq2) (by omega) (fun k hk => by rw [hf k (by omega), hf2 k (by omega)]; exact (obs_j h0.1.symm h0.2.symm hk).symm) (mx_bg 448 (by decide +kernel) (by decide +kernel)) hl.1 (Nat.le_of_ble_eq_true rfl) (show decode code 359 = .ok (.invokestatic 140, 3) from by decide +kernel) ⟨(Nat.le_of_ble_eq_true rfl), (Nat.le_of_ble_eq_true rfl)⟩ ⟨by show _ ≤ 600000; omega, by show _ ≤ 7302250; omega⟩ (fun H3 locs3 hN3 hR3 hS3 => ?_)
  refine lv_if_ne (tgt := 367) hx hb (show decode code 362 = .ok (.ifCond .ne 5, 3) from by decide +kernel) (by decide) (fun _ => ?_) (fun z => absurd z (by decide))
  have j : ∀ (a2 : aS) (H4 : Heap) (locs4 : List Loc), lwN D aX kX a2 H4 → va_S (fun q => s.heap.size ≤ q) s.heap H4 locs4 → W p l e room_1 s m #[Value.ref b] below meth c H4 locs4 (C + 1) (S + 238) (lw_Z below #[Value.ref b] s) (F0 m 388 ls []) := by
    intro a2 H4 locs4 hN4 hS4
    refine lv_iinc (k := 5) (lv' := [(3, .int (nI (i + 1))), (10, .int (nI 1)), (9, .int (nI st)), (8, .int (nI (gN g))), (6, .ref q), (5, .int z), (2, .int (nI (2 * i + 2))), (1, .ref (aX 0)), (0, .ref b)]) hx hb (show decode code 388 = .ok (.iinc 3 1, 3) from by decide +kernel) hl rfl (by rw [show Int32.ofInt 1 = nI 1 from by decide, pk_ad]) (by decide) rfl (fun ls hl => ?_)
    refine lv_goto hx hb (show decode code 391 = .ok (.goto (-379), 3) from by decide +kernel) (tgt := 12) (by decide) ?_
    have hl2 := lv_sub (l' := [(3, .int (nI (i + 1))), (2, .int (nI (2 * i + 2))), (1, .ref (aX 0)), (0, .ref b)]) hl [0, 6, 7, 8] rfl
    exact kk a2 H4 locs4 ls hN4 hS4 hl2
  obtain ⟨⟨cq, hq1, hq2⟩, -⟩ := id hR3
  refine lv_aload hx hb (show decode code 367 = .ok (.aload 6, 2) from by decide +kernel) (lv_at hl 3 rfl) ?_
  refine lv_sipush (v := nI 237) hx hb (show decode code 369 = .ok (.sipush (237), 3) from by decide +kernel) (by decide) ?_
  refine va_iald hx hb hq2 hq1 0 0 rfl rfl (vp_in_nI (by omega) (by omega)) (show decode code 372 = .ok (.iaload, 1) from by decide +kernel) ?_
  refine lv_if_lt (tgt := 388) hx hb (show decode code 373 = .ok (.ifCond .lt 15, 3) from by decide +kernel) (by decide) (fun _ => j _ _ _ hN3 hS3) (fun _ => ?_)
  refine lv_aload_n hx hb (show decode code 376 = .ok (.aload_n 1, 1) from by decide +kernel) rfl (lv_at hl 7 rfl) ?_
  refine lv_iconst (v := nI 1) hx hb (show decode code 377 = .ok (.iconst (1), 1) from by decide +kernel) (by decide) ?_
  refine lv_aload hx hb (show decode code 378 = .ok (.aload 6, 2) from by decide +kernel) (lv_at hl 3 rfl) ?_
  refine lv_sipush (v := nI 237) hx hb (show decode code 380 = .ok (.sipush (237), 3) from by decide +kernel) (by decide) ?_
  refine va_iald hx hb hq2 hq1 0 0 rfl rfl (vp_in_nI (by omega) (by omega)) (show decode code 383 = .ok (.iaload, 1) from by decide +kernel) ?_
  have hv3 := hN3.1
  refine lw_cls (id := 29) (mm := mX10_startEncoder) (dd := 6) (asr := [.int (nI 1), .int (f (nI 237).toNatClampNeg)]) (r := oStart (sGr (sWd a x) g) (nI 1) (f (nI 237).toNatClampNeg)) X hN3 hS3 rfl rfl (by decide +kernel) (fun w r => pX_startEncoder (d := 0) r hv3) (oStart_v hv3) (mx_bg 297 (by decide +kernel) (by decide +kernel)) (show (parseMethodDescriptor mX10_startEncoder.1.desc).map (fun d => d.parameters.length) = some 2 from by decide +kernel) rfl hl.1 (Nat.le_of_ble_eq_true rfl) (show decode code 384 = .ok (.invokevirtual 76, 3) from by decide +kernel) ⟨(Nat.le_of_ble_eq_true rfl), (Nat.le_of_ble_eq_true rfl)⟩ ⟨by show _ ≤ 600000; omega, by show _ ≤ 7302250; omega⟩ (fun H4 locs4 hN4 hS4 hk4 => ?_)
  refine lv_pop hx hb (show decode code 387 = .ok (.pop, 1) from by decide +kernel) rfl ?_
  exact j _ _ _ hN4 hS4
set_option maxHeartbeats 4000000 in
/-- 18 to 89 -/
theorem ll_18 {L : Nat} {xs : Nat → Int32} (X : lwF p s m #[Value.ref b] c code 11 "ConstrainedCoderLaw" D aX kX (fun q => s.heap.size ≤ q)) (hL : L ≤ 260) (hX : va_X b L xs s s.heap) (hbl : b < s.heap.size) (hN0 : lwN D aX kX a H0) (hS0 : va_S (fun q => s.heap.size ≤ q) s.heap H0 locs0) (hi : i < 30) (hc : C + 2 ≤ 600000 ∧ S + 476 ≤ 7302250) (hl : lv_has ls 11 [(3, .int (nI i)), (2, .int (nI (2 * i))), (1, .ref (aX 0)), (0, .ref b)]) (kk : ∀ (a1 : aS) (z : Int32) (H1 : Heap) (locs1 : List Loc) (ls1 : Array Slot), lwN D aX kX a1 H1 → va_S (fun q => s.heap.size ≤ q) s.heap H1 locs1 → lv_has ls1 11 [(5, .int z), (3, .int (nI i)), (2, .int (nI (2 * i + 2))), (1, .ref (aX 0)), (0, .ref b)] → W p l e room_1 s m #[Value.ref b] below meth c H1 locs1 (C + 2) (S + 476) (lw_Z below #[Value.ref b] s) (F0 m 89 ls1 [])) : W p l e room_1 s m #[Value.ref b] below meth c H0 locs0 C S (lw_Z below #[Value.ref b] s) (F0 m 18 ls []) := by
  obtain ⟨hx, hb, hml, hown, hts⟩ := id X.1
  have hvS := hN0.1
  refine lv_aload_n hx hb (show decode code 18 = .ok (.aload_n 0, 1) from by decide +kernel) rfl (lv_at hl 3 rfl) ?_
  refine lv_iload_n hx hb (show decode code 19 = .ok (.iload_n 2, 1) from by decide +kernel) rfl (lv_at hl 1 rfl) ?_
  refine lw_cell (i := 2 * i) (xs := xs) X.1 hL (by omega) hX hbl (Nat.not_le.mpr hbl) (mx_bg 385 (by decide +kernel) (by decide +kernel)) hS0 (fun _ h => h) hl.1 (Nat.le_of_ble_eq_true rfl) (show decode code 20 = .ok (.invokestatic 145, 3) from by decide +kernel) ⟨(Nat.le_of_ble_eq_true rfl), (Nat.le_of_ble_eq_true rfl)⟩ ⟨by show _ ≤ 600000; omega, by show _ ≤ 7302250; omega⟩ (fun y0 H1 locs1 hS1 hk1 => ?_)
  have hN1 := hN0.kept (fun k _ hlt => hk1 _ hlt)
  refine lv_istore (lv' := [(4, .int y0), (3, .int (nI i)), (2, .int (nI (2 * i))), (1, .ref (aX 0)), (0, .ref b)]) hx hb (show decode code 23 = .ok (.istore 4, 2) from by decide +kernel) hl (by decide) rfl (fun ls hl => ?_)
  refine lv_aload_n hx hb (show decode code 25 = .ok (.aload_n 0, 1) from by decide +kernel) rfl (lv_at hl 4 rfl) ?_
  refine lv_iload_n hx hb (show decode code 26 = .ok (.iload_n 2, 1) from by decide +kernel) rfl (lv_at hl 2 rfl) ?_
  refine lv_iconst (v := nI 1) hx hb (show decode code 27 = .ok (.iconst (1), 1) from by decide +kernel) (by decide) ?_
  refine lv_iadd hx hb (show decode code 28 = .ok (.iadd, 1) from by decide +kernel) ?_
  rw [pk_ad]
  refine lw_cell (i := 2 * i + 1) (xs := xs) X.1 hL (by omega) hX hbl (Nat.not_le.mpr hbl) (mx_bg 385 (by decide +kernel) (by decide +kernel)) hS1 (fun _ h => h) hl.1 (Nat.le_of_ble_eq_true rfl) (show decode code 29 = .ok (.invokestatic 145, 3) from by decide +kernel) ⟨(Nat.le_of_ble_eq_true rfl), (Nat.le_of_ble_eq_true rfl)⟩ ⟨by show _ ≤ 600000; omega, by show _ ≤ 7302250; omega⟩ (fun z0 H2 locs2 hS2 hk2 => ?_)
  have hN2 := hN1.kept (fun k _ hlt => hk2 _ hlt)
  refine lv_ldc (v := (2147483647 : Int32)) hx hb hown (hts (Jvm.Cond.constant "ConstrainedCoderLaw" 149 (2147483647 : Int32)) (mx_bg 868 (by decide +kernel) (by decide +kernel))) (show decode code 32 = .ok (.ldc 149, 2) from by decide +kernel) ?_
  refine lv_iand hx hb (show decode code 34 = .ok (.iand, 1) from by decide +kernel) ?_
  refine lv_istore (lv' := [(5, .int (z0 &&& (2147483647 : Int32))), (4, .int y0), (3, .int (nI i)), (2, .int (nI (2 * i))), (1, .ref (aX 0)), (0, .ref b)]) hx hb (show decode code 35 = .ok (.istore 5, 2) from by decide +kernel) hl (by decide) rfl (fun ls hl => ?_)
  generalize z0 &&& (2147483647 : Int32) = z at hl
  refine lv_iinc (k := 3) (lv' := [(2, .int (nI (2 * i + 2))), (5, .int z), (4, .int y0), (3, .int (nI i)), (1, .ref (aX 0)), (0, .ref b)]) hx hb (show decode code 37 = .ok (.iinc 2 2, 3) from by decide +kernel) hl rfl (by rw [show Int32.ofInt 2 = nI 2 from by decide, pk_ad]) (by decide) rfl (fun ls hl => ?_)
  refine lv_aload_n hx hb (show decode code 40 = .ok (.aload_n 1, 1) from by decide +kernel) rfl (lv_at hl 4 rfl) ?_
  refine lw_all X hN2 hS2 (mx_bg 388 (by decide +kernel) (by decide +kernel)) hl.1 (Nat.le_of_ble_eq_true rfl) (show decode code 41 = .ok (.invokestatic 131, 3) from by decide +kernel) ⟨(Nat.le_of_ble_eq_true rfl), (Nat.le_of_ble_eq_true rfl)⟩ ⟨by show _ ≤ 600000; omega, by show _ ≤ 7302250; omega⟩ (fun q f H3 locs3 hN3 hRq hf hgeq hS3 hk3 => ?_)
  refine lv_astore (lv' := [(6, .ref q), (2, .int (nI (2 * i + 2))), (5, .int z), (4, .int y0), (3, .int (nI i)), (1, .ref (aX 0)), (0, .ref b)]) hx hb (show decode code 44 = .ok (.astore 6, 2) from by decide +kernel) hl (by decide) rfl (fun ls hl => ?_)
  have j : ∀ y : Int32, W p l e room_1 s m #[Value.ref b] below meth c H3 locs3 (C + 1) (S + 238) (lw_Z below #[Value.ref b] s) (F0 m 60 ls [.int y, .ref (aX 0)]) := by
    intro y
    refine lv_iload hx hb (show decode code 60 = .ok (.iload 5, 2) from by decide +kernel) (lv_at hl 2 rfl) ?_
    refine lw_sta (id := 118) (mm := mL_acts) (dd := 8) (mc := 0) (ms := 0) (asr := [.int y, .int z]) (Qa := aQ a) X hN3 hS3 rfl rfl (fun w r => lw_met rfl (fun w r => pL_acts (d := 0) r hvS) w r _) (mx_bg 451 (by decide +kernel) (by decide +kernel)) (show (parseMethodDescriptor mL_acts.1.desc).map (fun d => d.parameters.length) = some 3 from by decide +kernel) rfl hl.1 (Nat.le_of_ble_eq_true rfl) (show decode code 62 = .ok (.invokestatic 150, 3) from by decide +kernel) ⟨(Nat.le_of_ble_eq_true rfl), (Nat.le_of_ble_eq_true rfl)⟩ ⟨by show _ ≤ 600000; omega, by show _ ≤ 7302250; omega⟩ (fun v2 w2 H4 locs4 hQ4 hP4 hS4 hk4 => ?_)
    obtain ⟨rr, a4, rfl, hr4, hv4, hneg⟩ := hQ4
    have hN4 : lwN D aX kX a4 H4 := ⟨hv4, w2, hr4, hP4⟩
    have hR4 := hRq.kept (hk4 q hRq.lt hRq.2)
    refine lv_istore (lv' := [(7, .int rr), (6, .ref q), (2, .int (nI (2 * i + 2))), (5, .int z), (4, .int y0), (3, .int (nI i)), (1, .ref (aX 0)), (0, .ref b)]) hx hb (show decode code 65 = .ok (.istore 7, 2) from by decide +kernel) hl (by decide) rfl (fun ls hl => ?_)
    refine lv_iload hx hb (show decode code 67 = .ok (.iload 7, 2) from by decide +kernel) (lv_at hl 0 rfl) ?_
    refine lv_if_ge (tgt := 89) hx hb (show decode code 69 = .ok (.ifCond .ge 20, 3) from by decide +kernel) (by decide) (fun _ => ?_) (fun hr => ?_)
    · exact W.widen (k := C + 2) (n := S + 476) (by omega) (by omega) (kk a4 z H4 locs4 ls hN4 hS4 (lv_sub hl [3, 5, 2, 6, 7] rfl))
    · have hneg := hneg (Int32.not_le.mp hr)
      subst hneg
      refine lv_aload hx hb (show decode code 72 = .ok (.aload 6, 2) from by decide +kernel) (lv_at hl 1 rfl) ?_
      refine lv_aload_n hx hb (show decode code 74 = .ok (.aload_n 1, 1) from by decide +kernel) rfl (lv_at hl 6 rfl) ?_
      refine lw_all X hN4 hS4 (mx_bg 388 (by decide +kernel) (by decide +kernel)) hl.1 (Nat.le_of_ble_eq_true rfl) (show decode code 75 = .ok (.invokestatic 131, 3) from by decide +kernel) ⟨(Nat.le_of_ble_eq_true rfl), (Nat.le_of_ble_eq_true rfl)⟩ ⟨by show _ ≤ 600000; omega, by show _ ≤ 7302250; omega⟩ (fun q2 f2 H5 locs5 hN5 hRq2 hf2 hgeq2 hS5 hk5 => ?_)
      have hR5 := hR4.kept (hk5 q hR4.lt hR4.2)
      have hlt := hR4.lt
      refine lv_sipush (v := nI 238) hx hb (show decode code 78 = .ok (.sipush (238), 3) from by decide +kernel) (by decide) ?_
      refine lw_same X hN5 hS5 hR5 hRq2 (by omega) (Nat.le_trans hS2.1 hgeq) (Nat.le_trans hS4.1 hgeq2) (by omega) (fun k hk => by rw [hf k hk, hf2 k hk]) (mx_bg 448 (by decide +kernel) (by decide +kernel)) hl.1 (Nat.le_of_ble_eq_true rfl) (show decode code 81 = .ok (.invokestatic 140, 3) from by decide +kernel) ⟨(Nat.le_of_ble_eq_true rfl), (Nat.le_of_ble_eq_true rfl)⟩ ⟨by show _ ≤ 600000; omega, by show _ ≤ 7302250; omega⟩ (fun H6 locs6 hN6 hR6 hS6 => ?_)
      refine lv_if_ne (tgt := 89) hx hb (show decode code 84 = .ok (.ifCond .ne 5, 3) from by decide +kernel) (by decide) (fun _ => ?_) (fun z => absurd z (by decide))
      exact kk _ z H6 locs6 ls hN6 hS6 (lv_sub hl [3, 5, 2, 6, 7] rfl)
  refine lv_aload_n hx hb (show decode code 46 = .ok (.aload_n 1, 1) from by decide +kernel) rfl (lv_at hl 5 rfl) ?_
  refine lv_iload_n hx hb (show decode code 47 = .ok (.iload_n 3, 1) from by decide +kernel) rfl (lv_at hl 4 rfl) ?_
  refine lv_if_ne (tgt := 58) hx hb (show decode code 48 = .ok (.ifCond .ne 10, 3) from by decide +kernel) (by decide) (fun _ => ?_) (fun _ => ?_)
  · refine lv_iload hx hb (show decode code 58 = .ok (.iload 4, 2) from by decide +kernel) (lv_at hl 3 rfl) ?_
    exact j _
  · refine lv_iload hx hb (show decode code 51 = .ok (.iload 4, 2) from by decide +kernel) (lv_at hl 3 rfl) ?_
    refine lv_iconst (v := nI 1) hx hb (show decode code 53 = .ok (.iconst (1), 1) from by decide +kernel) (by decide) ?_
    refine lv_iand hx hb (show decode code 54 = .ok (.iand, 1) from by decide +kernel) ?_
    refine lv_goto hx hb (show decode code 55 = .ok (.goto (5), 3) from by decide +kernel) (tgt := 60) (by decide) ?_
    exact j _
set_option maxHeartbeats 4000000 in
theorem ll_loop {L : Nat} {xs : Nat → Int32} (X : lwF p s m #[Value.ref b] c code 11 "ConstrainedCoderLaw" D aX kX (fun q => s.heap.size ≤ q)) (hL : L ≤ 260) (hX : va_X b L xs s s.heap) (hbl : b < s.heap.size) (hr : meth.sig.returnType = ret) (hlocks : meth.locks = false) : ∀ (k i C S : Nat) (a : aS) (H : Heap) (locs : List Loc) (ls : Array Slot), i + k = 30 → C + 10 * k ≤ 600000 → S + 2000 * k ≤ 7302250 → lwN D aX kX a H → va_S (fun q => s.heap.size ≤ q) s.heap H locs → lv_has ls 11 [(3, .int (nI i)), (2, .int (nI (2 * i))), (1, .ref (aX 0)), (0, .ref b)] → W p l e room_1 s m #[Value.ref b] below meth c H locs C S (lw_Z below #[Value.ref b] s) (F0 m 12 ls []) := by
  obtain ⟨hx, hb, hml, hown, hts⟩ := id X.1
  intro k
  induction k with
  | zero =>
    intro i C S a H locs ls hi hC hS0 hN hS hl
    refine lv_iload_n hx hb (show decode code 12 = .ok (.iload_n 3, 1) from by decide +kernel) rfl (lv_at hl 0 rfl) ?_
    refine lv_bipush (v := nI 30) hx hb (show decode code 13 = .ok (.bipush (30), 2) from by decide +kernel) (by decide) ?_
    refine lv_icmp_ge (tgt := 394) hx hb (show decode code 15 = .ok (.if_icmp .ge 379, 3) from by decide +kernel) (by decide) (fun _ => ?_) (fun z => absurd ((nI_leI (by omega) (by omega)).mpr (by omega)) z)
    refine W.widen (k := 600000) (n := 7302250) (by omega) (by omega) ?_
    refine lv_iconst (v := 1) hx hb (show decode code 394 = .ok (.iconst 1, 1) from by decide +kernel) (by decide) ?_
    refine va_forget hS.2.2 ?_
    exact lw_ret hx hb hr hlocks (show decode code 395 = .ok (.ireturn, 1) from by decide +kernel)
  | succ k ih =>
    intro i C S a H locs ls hi hC hS0 hN hS hl
    refine lv_iload_n hx hb (show decode code 12 = .ok (.iload_n 3, 1) from by decide +kernel) rfl (lv_at hl 0 rfl) ?_
    refine lv_bipush (v := nI 30) hx hb (show decode code 13 = .ok (.bipush (30), 2) from by decide +kernel) (by decide) ?_
    refine lv_icmp_ge (tgt := 394) hx hb (show decode code 15 = .ok (.if_icmp .ge 379, 3) from by decide +kernel) (by decide) (fun z => absurd ((nI_leI (by omega) (by omega)).mp z) (by omega)) (fun _ => ?_)
    have hi2 : i < 30 := by omega
    refine ll_18 X hL hX hbl hN hS hi2 (by omega) hl (fun a1 z H1 locs1 ls1 hN1 hS1 hl1 => ?_)
    refine ll_89 X hN1 hS1 hi2 (by omega) hl1 (fun q st f H2 locs2 ls2 hN2 hS2 hR2 hq hf hst hl2 => ?_)
    refine ll_131 X hN2 ⟨rfl, rfl⟩ hS2 hR2 hst hi2 (by omega) hl2 (fun a3 H3 locs3 ls3 hN3 hs3 hS3 hR3 hl3 => ?_)
    refine ll_179 X hN3 hs3 hS3 hR3 hst hi2 (by omega) hl3 (fun a4 H4 locs4 ls4 hN4 hs4 hS4 hR4 hl4 => ?_)
    refine ll_221 X hN4 hs4 hS4 hR4 hst hi2 (by omega) hl4 (fun a5 H5 locs5 ls5 hN5 hs5 hS5 hR5 hl5 => ?_)
    refine ll_266 X hN5 hs5 hS5 hR5 hst hi2 (by omega) hl5 (fun a6 H6 locs6 ls6 hN6 hs6 hS6 hR6 hl6 => ?_)
    refine ll_303 X hN6 hs6 hS6 hR6 hst hi2 (by omega) hl6 (fun a7 H7 locs7 ls7 hN7 hs7 hS7 hR7 hl7 => ?_)
    refine ll_340 X hN7 hs7 hS7 hR7 hq hf ⟨rfl, rfl⟩ hi2 (by omega) hl7 (fun a8 H8 locs8 ls8 hN8 hS8 hl8 => ?_)
    exact ih (i + 1) _ _ a8 H8 locs8 ls8 (by omega) (by omega) (by omega) hN8 hS8 hl8
end LAW
