/-! a call of balanced out of the law's frame -/
theorem lw_bal {p : Program} {l : Launch} {e : Env} {R : Room} {s : State} {m : MethodId} {args : Array Value} {below : List Frame} {meth : Method} {c : Code} {H : Heap} {locs : List Loc} {cells slots : Nat} {Q : State → Prop} {pc idx : Nat} {ls : Array Slot} {rest : List Value} {A : Nat → Prop} {cc : ByteArray} {own : String} {nL : Nat} {D : va_G} {aX : Nat → Nat} {kX : Nat → ClassId} {a : aS} (X : lwF p s m args c cc nL own D aX kX A) (hN : lwN D aX kX a H) (hS : va_S A s.heap H locs)
    (hlk : Jvm.Cond.methodLink own idx yL_balanced ∈ mx_big) (hsz : ls.size = nL) (hr : (rest.map fun v => v.category).sum ≤ 8) (hdg : decode cc pc = .ok (.invokestatic idx, 3)) (hR : 6 ≤ R.frames ∧ 230 ≤ R.locals) (hc : cells + 2 ≤ R.cells ∧ slots + 476 ≤ R.slots)
    (kk : ∀ (H1 : Heap) (locs1 : List Loc), lwN D aX kX a H1 → va_S A s.heap H1 locs1 → (∀ q', q' < H.size → (∀ k, k < 69 → aX k ≠ q') → H1[q']? = H[q']?) → W p l e R s m args below meth c H1 locs1 (cells + 2) (slots + 476) Q (F0 m (pc + 3) ls (.int (nI 1) :: rest))) : W p l e R s m args below meth c H locs cells slots Q (F0 m pc ls (.ref (aX 0) :: rest)) := by
  obtain ⟨F, hK, hD, hAn⟩ := X
  obtain ⟨v, w, rr, hP⟩ := hN
  have hgood := mx_hy.2.2.2.2.2.2.2.2.2.2.2.2.2.2
  have hts := F.2.2.2.2
  have hcb : Jvm.Cond.code mB.1 mB.2.1 mB.2.2.1 mB.2.2.2.1 ∈ mx_big := mx_bg 858 (by decide +kernel) (by decide +kernel)
  have hib : Jvm.Cond.initialized mB.1.cls ∈ mx_big := mx_bg 28 (by decide +kernel) (by decide +kernel)
  have hst2 : Jvm.Cond.static mB.1 ∈ mx_big := mx_bg 857 (by decide +kernel) (by decide +kernel)
  have hGI : GoodIn mx_big (mx_ws mx_big mB) := by
    intro w hw
    rcases List.mem_cons.mp hw with rfl | hw
    · exact ⟨hcb, good_of_word (hgood _ hcb)⟩
    · exact ⟨hw, good_of_word (hgood w hw)⟩
  have hFr : ∀ q, va_A (mx_cc aX kX mx_lX w) H.size q → A q := fun q h => by
    rcases h with ⟨k, e, h⟩ | h
    · exact (hD w).2 k (q, e) h
    · exact hAn q (Nat.le_trans hS.1 h)
  have hPcU : ∀ U : State, U.heap = H → s.WarmedH U.vm → mx_Pc aX kX D mx_lX H.size [.ref 0] w ([Value.ref 0].map (mx_cv aX)).toArray U := fun U hU hW => ⟨rfl, by rw [hU], by rw [hU]; exact hP, hK.moved hW.alike, (hD w).weaken (fun _ _ _ _ => trivial), trivial⟩
  have hCB : CallB R s args own idx mB.1 mB.2.1 mB.2.2.1 mB.2.2.2.1 (mx_ws mx_big mB) rmB 2 476 1 :=
    callB_of 1 hts hGI rfl rfl rfl (hts _ hib) (hts _ hlk) ⟨by decide +kernel, by decide +kernel, by decide +kernel⟩ ⟨hR.1, by show 8 + (4 + 11) + 200 ≤ R.locals; omega⟩
  refine lw_run (A1 := va_A (mx_cc aX kX mx_lX w) H.size) (free := va_A (mx_cc aX kX mx_lX w) H.size) (rest := rest) (Qc := mx_Qc aX kX D mx_lX (balQ a) (va_A (mx_cc aX kX mx_lX w) H.size) ([Value.ref 0].map (mx_cv aX)).toArray) (fun _ _ _ h => h.2)
    (va_runS (n := 1) F (lm_bal rr v l aX kX D H.size) ⟨hCB, hts _ hst2⟩ ⟨mx_Pc_blind, fun U hU hW => hPcU U hU hW⟩ rfl (by simp) hsz rfl (lv_room hr) hdg hc) hS (fun q _ h => hFr q h) hFr ?_
  rintro v' st t H1 locs1 - rfl - ⟨⟨v2, w', ho, ⟨rfl, r'⟩, hP'⟩, -⟩ hS1 hk1
  cases ho
  exact kk t.heap locs1 ⟨v, w', r', hP'⟩ hS1 fun q' h1 h2 => hk1 q' h1 (lX_out h1 h2)
