/-! printed by wip/whole/gen8.py: the law's loop -/
section LD
variable {p : Program} {l : Launch} {e : Env} {s : State} {m : MethodId} {below : List Frame} {meth : Method} {c : Code} {b L : Nat} {xs : Nat → Int32} {Q : State → Prop}
variable {D : va_G} {aX aM : Nat → Nat} {kX kM : Nat → ClassId}
theorem lf_d33 : decode code 33 = .ok (.tableswitch 1239 0 42 #[187, 220, 243, 266, 279, 322, 345, 358, 371, 384, 407, 430, 453, 476, 509, 522, 535, 558, 571, 594, 607, 620, 643, 666, 679, 702, 746, 829, 863, 887, 920, 943, 966, 999, 1022, 1035, 1048, 1071, 1104, 1147, 1180, 1213, 1226], 187) := by decide +kernel
theorem lf_i6 {n : Nat} : nI (6 * n) + Int32.ofInt 6 = nI (6 * (n + 1)) := nI_add (6 * n) 6
theorem lf_cmp {n L : Nat} (hL : L ≤ 3072) (hn : 6 * n ≤ L) : (nI L - nI 6 < nI (6 * n)) = (L < 6 * n + 6) := by
  rcases Nat.lt_or_ge L 6 with h | h
  · have e : n = 0 := by omega
    subst e
    have key : ∀ j, j < 6 → nI j - nI 6 < nI (6 * 0) := by decide +kernel
    exact (eq_true (key L h)).trans (eq_true (by omega)).symm
  · have e : nI L - nI 6 = nI (L - 6) := pk_sub h
    rw [e]
    refine propext ((nI_ltI (by omega) (by omega)).trans ⟨fun _ => by omega, fun _ => by omega⟩)
theorem lf_inc {n : Nat} {a : aS} {H : Heap} {locs : List Loc} {ls : Array Slot} (C : lf_X p s m c b L xs D aX aM kX kM) (h : lf_N s b D aX aM kX kM n a H locs ls) (kk : ∀ ls' : Array Slot, lf_N s b D aX aM kX kM (n + 1) a H locs ls' → W p l e room_1 s m #[Value.ref b] below meth c H locs 600000 7302250 Q (F0 m 18 ls' [])) : W p l e room_1 s m #[Value.ref b] below meth c H locs 600000 7302250 Q (F0 m 1272 ls []) := by
  obtain ⟨⟨hx, hb, -, -, -⟩, -⟩ := id C
  obtain ⟨h1, h2, h3, h4, hl⟩ := h
  refine lv_iinc (k := 0) (v := nI (6 * (n + 1))) (lv' := [(3, .int (nI (6 * (n + 1)))), (2, .ref (aM 0)), (1, .ref (aX 0)), (0, .ref b)]) hx hb (show decode code 1272 = .ok (.iinc 3 6, 3) from by decide +kernel) hl rfl lf_i6 (by decide) rfl (fun ls' hl' => ?_)
  exact lv_goto hx hb (show decode code 1275 = .ok (.goto (-1257), 3) from by decide +kernel) (tgt := 18) (by decide) (kk ls' ⟨h1, h2, h3, h4, hl'⟩)
theorem lf_head {n : Nat} {a : aS} {H : Heap} {locs : List Loc} {ls : Array Slot} (C : lf_X p s m c b L xs D aX aM kX kM) (h : lf_N s b D aX aM kX kM n a H locs ls) (hn : 6 * n ≤ L) (kd : W p l e room_1 s m #[Value.ref b] below meth c H locs 600000 7302250 Q (F0 m 1278 ls [])) (ki : 6 * n + 6 ≤ L → ∀ j, j < 64 → W p l e room_1 s m #[Value.ref b] below meth c H locs 600000 7302250 Q (F0 m 33 ls [.int (nI j)])) : W p l e room_1 s m #[Value.ref b] below meth c H locs 600000 7302250 Q (F0 m 18 ls []) := by
  obtain ⟨⟨hx, hb, -, -, -⟩, hX, hbl, hL, -⟩ := id C
  obtain ⟨-, -, -, hS, hl⟩ := id h
  refine lv_iload_n hx hb (show decode code 18 = .ok (.iload_n 3, 1) from by decide +kernel) rfl (lv_at hl 0 rfl) ?_
  refine lv_aload_n hx hb (show decode code 19 = .ok (.aload_n 0, 1) from by decide +kernel) rfl (lv_at hl 3 rfl) ?_
  refine va_slen (A := lf_A s) hx hb hX hbl (Nat.not_le.mpr hbl) hS (show decode code 20 = .ok (.arraylength, 1) from by decide +kernel) ?_
  refine lv_bipush (v := nI 6) hx hb (show decode code 21 = .ok (.bipush 6, 2) from by decide +kernel) (by decide) ?_
  refine lv_isub hx hb (show decode code 23 = .ok (.isub, 1) from by decide +kernel) ?_
  refine lv_icmp_gt (tgt := 1278) hx hb (show decode code 24 = .ok (.if_icmp .gt 1254, 3) from by decide +kernel) (by decide) (fun _ => kd) (fun z => ?_)
  have hn6 : 6 * n + 6 ≤ L := Nat.not_lt.mp fun q => z (Eq.mpr (lf_cmp hL hn) q)
  refine lv_aload_n hx hb (show decode code 27 = .ok (.aload_n 0, 1) from by decide +kernel) rfl (lv_at hl 3 rfl) ?_
  refine lv_iload_n hx hb (show decode code 28 = .ok (.iload_n 3, 1) from by decide +kernel) rfl (lv_at hl 0 rfl) ?_
  refine va_sld (A := lf_A s) hx hb hX hbl (Nat.not_le.mpr hbl) hS (vp_in_nI (by omega) (by omega)) (show decode code 29 = .ok (.iaload, 1) from by decide +kernel) ?_
  refine lv_bipush (v := 63) hx hb (show decode code 30 = .ok (.bipush 63, 2) from by decide +kernel) (by decide) ?_
  refine lv_iand hx hb (show decode code 32 = .ok (.iand, 1) from by decide +kernel) ?_
  obtain ⟨j, hj, ej⟩ := pk_andE (xs (nI (6 * n)).toNatClampNeg) (m := 63) 6 (by decide)
  rw [ej]
  exact ki hn6 j hj
theorem lf_disp {n : Nat} {a : aS} {H : Heap} {locs : List Loc} {ls : Array Slot} (C : lf_X p s m c b L xs D aX aM kX kM) (h : lf_N s b D aX aM kX kM n a H locs ls) (hn : 6 * n + 6 ≤ L) (kk : ∀ (a' : aS) (H' : Heap) (locs' : List Loc), lf_N s b D aX aM kX kM n a' H' locs' ls → W p l e room_1 s m #[Value.ref b] below meth c H' locs' 600000 7302250 Q (F0 m 1272 ls [])) {j : Nat} (hj : j < 64) : W p l e room_1 s m #[Value.ref b] below meth c H locs 600000 7302250 Q (F0 m 33 ls [.int (nI j)]) := by
  obtain ⟨⟨hx, hb, -, -, -⟩, -⟩ := id C
  rcases Nat.lt_or_ge j 43 with h43 | h43
  · match j, h43 with
    | 0, _ => exact lv_tableIn (off := 187) (tgt := 220) hx hb lf_d33 (by decide) (by decide) (by decide +kernel) (by decide) (lc_0 C h hn kk)
    | 1, _ => exact lv_tableIn (off := 220) (tgt := 253) hx hb lf_d33 (by decide) (by decide) (by decide +kernel) (by decide) (lc_1 C h hn kk)
    | 2, _ => exact lv_tableIn (off := 243) (tgt := 276) hx hb lf_d33 (by decide) (by decide) (by decide +kernel) (by decide) (lc_2 C h hn kk)
    | 3, _ => exact lv_tableIn (off := 266) (tgt := 299) hx hb lf_d33 (by decide) (by decide) (by decide +kernel) (by decide) (lc_3 C h hn kk)
    | 4, _ => exact lv_tableIn (off := 279) (tgt := 312) hx hb lf_d33 (by decide) (by decide) (by decide +kernel) (by decide) (lc_4 C h hn kk)
    | 5, _ => exact lv_tableIn (off := 322) (tgt := 355) hx hb lf_d33 (by decide) (by decide) (by decide +kernel) (by decide) (lc_5 C h hn kk)
    | 6, _ => exact lv_tableIn (off := 345) (tgt := 378) hx hb lf_d33 (by decide) (by decide) (by decide +kernel) (by decide) (lc_6 C h hn kk)
    | 7, _ => exact lv_tableIn (off := 358) (tgt := 391) hx hb lf_d33 (by decide) (by decide) (by decide +kernel) (by decide) (lc_7 C h hn kk)
    | 8, _ => exact lv_tableIn (off := 371) (tgt := 404) hx hb lf_d33 (by decide) (by decide) (by decide +kernel) (by decide) (lc_8 C h hn kk)
    | 9, _ => exact lv_tableIn (off := 384) (tgt := 417) hx hb lf_d33 (by decide) (by decide) (by decide +kernel) (by decide) (lc_9 C h hn kk)
    | 10, _ => exact lv_tableIn (off := 407) (tgt := 440) hx hb lf_d33 (by decide) (by decide) (by decide +kernel) (by decide) (lc_10 C h hn kk)
    | 11, _ => exact lv_tableIn (off := 430) (tgt := 463) hx hb lf_d33 (by decide) (by decide) (by decide +kernel) (by decide) (lc_11 C h hn kk)
    | 12, _ => exact lv_tableIn (off := 453) (tgt := 486) hx hb lf_d33 (by decide) (by decide) (by decide +kernel) (by decide) (lc_12 C h hn kk)
    | 13, _ => exact lv_tableIn (off := 476) (tgt := 509) hx hb lf_d33 (by decide) (by decide) (by decide +kernel) (by decide) (lc_13 C h hn kk)
    | 14, _ => exact lv_tableIn (off := 509) (tgt := 542) hx hb lf_d33 (by decide) (by decide) (by decide +kernel) (by decide) (lc_14 C h hn kk)
    | 15, _ => exact lv_tableIn (off := 522) (tgt := 555) hx hb lf_d33 (by decide) (by decide) (by decide +kernel) (by decide) (lc_15 C h hn kk)
    | 16, _ => exact lv_tableIn (off := 535) (tgt := 568) hx hb lf_d33 (by decide) (by decide) (by decide +kernel) (by decide) (lc_16 C h hn kk)
    | 17, _ => exact lv_tableIn (off := 558) (tgt := 591) hx hb lf_d33 (by decide) (by decide) (by decide +kernel) (by decide) (lc_17 C h hn kk)
    | 18, _ => exact lv_tableIn (off := 571) (tgt := 604) hx hb lf_d33 (by decide) (by decide) (by decide +kernel) (by decide) (lc_18 C h hn kk)
    | 19, _ => exact lv_tableIn (off := 594) (tgt := 627) hx hb lf_d33 (by decide) (by decide) (by decide +kernel) (by decide) (lc_19 C h hn kk)
    | 20, _ => exact lv_tableIn (off := 607) (tgt := 640) hx hb lf_d33 (by decide) (by decide) (by decide +kernel) (by decide) (lc_20 C h hn kk)
    | 21, _ => exact lv_tableIn (off := 620) (tgt := 653) hx hb lf_d33 (by decide) (by decide) (by decide +kernel) (by decide) (lc_21 C h hn kk)
    | 22, _ => exact lv_tableIn (off := 643) (tgt := 676) hx hb lf_d33 (by decide) (by decide) (by decide +kernel) (by decide) (lc_22 C h hn kk)
    | 23, _ => exact lv_tableIn (off := 666) (tgt := 699) hx hb lf_d33 (by decide) (by decide) (by decide +kernel) (by decide) (lc_23 C h hn kk)
    | 24, _ => exact lv_tableIn (off := 679) (tgt := 712) hx hb lf_d33 (by decide) (by decide) (by decide +kernel) (by decide) (lc_24 C h hn kk)
    | 25, _ => exact lv_tableIn (off := 702) (tgt := 735) hx hb lf_d33 (by decide) (by decide) (by decide +kernel) (by decide) (lc_25 C h hn kk)
    | 26, _ => exact lv_tableIn (off := 746) (tgt := 779) hx hb lf_d33 (by decide) (by decide) (by decide +kernel) (by decide) (lc_26 C h hn kk)
    | 27, _ => exact lv_tableIn (off := 829) (tgt := 862) hx hb lf_d33 (by decide) (by decide) (by decide +kernel) (by decide) (lc_27 C h hn kk)
    | 28, _ => exact lv_tableIn (off := 863) (tgt := 896) hx hb lf_d33 (by decide) (by decide) (by decide +kernel) (by decide) (lc_28 C h hn kk)
    | 29, _ => exact lv_tableIn (off := 887) (tgt := 920) hx hb lf_d33 (by decide) (by decide) (by decide +kernel) (by decide) (lc_29 C h hn kk)
    | 30, _ => exact lv_tableIn (off := 920) (tgt := 953) hx hb lf_d33 (by decide) (by decide) (by decide +kernel) (by decide) (lc_30 C h hn kk)
    | 31, _ => exact lv_tableIn (off := 943) (tgt := 976) hx hb lf_d33 (by decide) (by decide) (by decide +kernel) (by decide) (lc_31 C h hn kk)
    | 32, _ => exact lv_tableIn (off := 966) (tgt := 999) hx hb lf_d33 (by decide) (by decide) (by decide +kernel) (by decide) (lc_32 C h hn kk)
    | 33, _ => exact lv_tableIn (off := 999) (tgt := 1032) hx hb lf_d33 (by decide) (by decide) (by decide +kernel) (by decide) (lc_33 C h hn kk)
    | 34, _ => exact lv_tableIn (off := 1022) (tgt := 1055) hx hb lf_d33 (by decide) (by decide) (by decide +kernel) (by decide) (lc_34 C h hn kk)
    | 35, _ => exact lv_tableIn (off := 1035) (tgt := 1068) hx hb lf_d33 (by decide) (by decide) (by decide +kernel) (by decide) (lc_35 C h hn kk)
    | 36, _ => exact lv_tableIn (off := 1048) (tgt := 1081) hx hb lf_d33 (by decide) (by decide) (by decide +kernel) (by decide) (lc_36 C h hn kk)
    | 37, _ => exact lv_tableIn (off := 1071) (tgt := 1104) hx hb lf_d33 (by decide) (by decide) (by decide +kernel) (by decide) (lc_37 C h hn kk)
    | 38, _ => exact lv_tableIn (off := 1104) (tgt := 1137) hx hb lf_d33 (by decide) (by decide) (by decide +kernel) (by decide) (lc_38 C h hn kk)
    | 39, _ => exact lv_tableIn (off := 1147) (tgt := 1180) hx hb lf_d33 (by decide) (by decide) (by decide +kernel) (by decide) (lc_39 C h hn kk)
    | 40, _ => exact lv_tableIn (off := 1180) (tgt := 1213) hx hb lf_d33 (by decide) (by decide) (by decide +kernel) (by decide) (lc_40 C h hn kk)
    | 41, _ => exact lv_tableIn (off := 1213) (tgt := 1246) hx hb lf_d33 (by decide) (by decide) (by decide +kernel) (by decide) (lc_41 C h hn kk)
    | 42, _ => exact lv_tableIn (off := 1226) (tgt := 1259) hx hb lf_d33 (by decide) (by decide) (by decide +kernel) (by decide) (lc_42 C h hn kk)
    | q + 43, hq => exact absurd hq (by omega)
  · exact lv_tableOut (tgt := 1272) hx hb lf_d33 (Or.inr (by rw [nI_toInt (by omega)]; omega)) (by decide) (kk a H locs h)
theorem lf_loop (C : lf_X p s m c b L xs D aX aM kX kM) (kd : ∀ (n : Nat) (a : aS) (H : Heap) (locs : List Loc) (ls : Array Slot), lf_N s b D aX aM kX kM n a H locs ls → W p l e room_1 s m #[Value.ref b] below meth c H locs 600000 7302250 Q (F0 m 1278 ls [])) : ∀ (k n : Nat) (a : aS) (H : Heap) (locs : List Loc) (ls : Array Slot), L < 6 * n + 6 * k → 6 * n ≤ L → lf_N s b D aX aM kX kM n a H locs ls → W p l e room_1 s m #[Value.ref b] below meth c H locs 600000 7302250 Q (F0 m 18 ls [])
  | 0, n, a, H, locs, ls, hk, hn, h => absurd hk (by omega)
  | k + 1, n, a, H, locs, ls, hk, hn, h => lf_head C h hn (kd n a H locs ls h) fun hn6 j hj => lf_disp C h hn6 (fun a' H' locs' h' => lf_inc C h' fun ls' h'' => lf_loop C kd k (n + 1) a' H' locs' ls' (by omega) (by omega) h'') hj
end LD
