/-! what stands in the law's frames, over its calls -/
def lwF (p : Program) (s : State) (m : MethodId) (args : Array Value) (c : Code) (cc : ByteArray) (nL : Nat) (own : String) (D : va_G) (aX : Nat → Nat) (kX : Nat → ClassId) (A : Nat → Prop) : Prop := CallFix p m c cc nL s args mx_big own ∧ mx_K D kX mx_lX s ∧ (∀ w, va_D A (mx_cc aX kX mx_lX w)) ∧ ∀ q, s.heap.size ≤ q → A q
/-- the object, in a state a -/
def lwN (D : va_G) (aX : Nat → Nat) (kX : Nat → ClassId) (a : aS) (H : Heap) : Prop := vS a ∧ ∃ w, RX w a ∧ va_P D vwCl (mx_cc aX kX mx_lX w) H
/-- a row of 238 ints, beside the object -/
def lwR (D : va_G) (aX : Nat → Nat) (q : Nat) (f : Nat → Int32) (s : State) (H : Heap) : Prop := (∃ cq, va_P D vwCl [(q, .inl (cq, (238, .inl f)))] H ∧ va_K D vwCl [(cq, .int)] s) ∧ ∀ k, k < 69 → aX k ≠ q
theorem lwR.lt {D : va_G} {aX : Nat → Nat} {q : Nat} {f : Nat → Int32} {s : State} {H : Heap} (h : lwR D aX q f s H) : q < H.size := by
  obtain ⟨⟨cq, h1, _⟩, _⟩ := h
  exact (h1 0 _ rfl).lt
theorem lwR.kept {D : va_G} {aX : Nat → Nat} {q : Nat} {f : Nat → Int32} {s : State} {H H1 : Heap} (h : lwR D aX q f s H) (hk : H1[q]? = H[q]?) : lwR D aX q f s H1 := by
  obtain ⟨⟨cq, h1, h2⟩, h3⟩ := h
  refine ⟨⟨cq, h1.kept fun k x hx => ?_, h2⟩, h3⟩
  cases k with
  | zero => cases hx; exact hk
  | succ k => cases hx
theorem lX_ad {aX : Nat → Nat} {kX : Nat → ClassId} {w : mx_Wd} {k : Nat} {x : Nat × va_E} (h : (mx_cc aX kX mx_lX w)[k]? = some x) : k < 69 ∧ x.1 = aX k := by
  have hk := (List.getElem?_eq_some_iff.mp h).1
  rw [cc_len] at hk
  refine ⟨hk, ?_⟩
  simp only [mx_cc, List.getElem?_mapIdx, Option.map_eq_some_iff] at h
  obtain ⟨c, _, e⟩ := h
  rw [← e]
/-- what is beside the object is not of it -/
theorem lX_out {aX : Nat → Nat} {kX : Nat → ClassId} {w : mx_Wd} {sz q : Nat} (hq : q < sz) (ha : ∀ k, k < 69 → aX k ≠ q) : ¬ va_A (mx_cc aX kX mx_lX w) sz q := by
  rintro (⟨k, e, h⟩ | h)
  · obtain ⟨h1, h2⟩ := lX_ad h
    exact ha k h1 h2.symm
  · omega
theorem lwN.kept {D : va_G} {aX : Nat → Nat} {kX : Nat → ClassId} {a : aS} {H H1 : Heap} (h : lwN D aX kX a H) (hk : ∀ k, k < 69 → aX k < H.size → H1[aX k]? = H[aX k]?) : lwN D aX kX a H1 := by
  obtain ⟨v, w, r, hP⟩ := h
  refine ⟨v, w, r, hP.kept fun k x hx => ?_⟩
  obtain ⟨h1, h2⟩ := lX_ad hx
  have hlt := (hP k x hx).lt
  rw [h2] at hlt ⊢
  exact hk k h1 hlt
section LCAL
variable {p : Program} {l : Launch} {e : Env} {R : Room} {s : State} {m : MethodId} {args : Array Value} {below : List Frame} {meth : Method} {c : Code} {H : Heap} {locs : List Loc} {cells slots : Nat} {Q : State → Prop}
variable {pc idx : Nat} {ls : Array Slot} {rest : List Value} {A : Nat → Prop} {cc : ByteArray} {own : String} {nL : Nat} {D : va_G} {aX : Nat → Nat} {kX : Nat → ClassId} {a : aS}
/-- all -/
theorem lw_all (X : lwF p s m args c cc nL own D aX kX A) (hN : lwN D aX kX a H) (hS : va_S A s.heap H locs) (hlk : Jvm.Cond.methodLink own idx yL_all ∈ mx_big) (hsz : ls.size = nL) (hr : (rest.map fun v => v.category).sum ≤ 8) (hdg : decode cc pc = .ok (.invokestatic idx, 3)) (hR : 5 ≤ R.frames ∧ 200 ≤ R.locals) (hc : cells + 1 ≤ R.cells ∧ slots + 238 ≤ R.slots)
    (kk : ∀ (q : Nat) (f : Nat → Int32) (H1 : Heap) (locs1 : List Loc), lwN D aX kX a H1 → lwR D aX q f s H1 → (∀ k, k < 238 → f k = obs a k) → H.size ≤ q → va_S A s.heap H1 locs1 → (∀ q', q' < H.size → (∀ k, k < 69 → aX k ≠ q') → H1[q']? = H[q']?) → W p l e R s m args below meth c H1 locs1 (cells + 1) (slots + 238) Q (F0 m (pc + 3) ls (.ref q :: rest))) : W p l e R s m args below meth c H locs cells slots Q (F0 m pc ls (.ref (aX 0) :: rest)) := by
  obtain ⟨F, hK, hD, hA⟩ := X
  obtain ⟨v, w, r, hP⟩ := hN
  refine lw_S (as := [.ref 0]) (w := w) (id := 116) (mm := mL_all) F rfl rfl (lm_all r v l aX kX D H.size) (fun _ _ _ _ h => h.2) hlk (by decide +kernel) hP hK (hD w) hS hA hsz hr hdg ⟨hR.1, hR.2⟩ hc ?_
  rintro v' st t H1 locs1 hst rfl hvm ⟨⟨q, cq, w', f, ho, hq, hKt, r', hf, hP'⟩, -⟩ hS1 hk1
  cases ho
  rw [hst] at hq
  have hP1 : va_P D vwCl (mx_cc aX kX mx_lX w') t.heap := fun k x hx => hP' k x (by rw [List.getElem?_append_left (List.getElem?_eq_some_iff.mp hx).1]; exact hx)
  have hP2 : va_P D vwCl [(q, .inl (cq, (238, .inl f)))] t.heap := fun k x hx => hP' (69 + k) x (by rw [List.getElem?_append_right (by rw [cc_len]; omega), cc_len, Nat.add_sub_cancel_left]; exact hx)
  refine kk q f t.heap locs1 ⟨v, w', r', hP1⟩ ⟨⟨cq, hP2, va_K.moved hvm.symm hKt⟩, fun k hk ek => ?_⟩ hf hq hS1 fun q' h1 h2 => hk1 q' h1 (lX_out h1 h2)
  have hx : ∃ x, (mx_cc aX kX mx_lX w)[k]? = some x := ⟨_, List.getElem?_eq_getElem (by rw [cc_len]; exact hk)⟩
  obtain ⟨x, hx⟩ := hx
  have := (hP k x hx).lt
  rw [(lX_ad hx).2, ek] at this
  omega
/-- same, of two rows -/
theorem lw_same (X : lwF p s m args c cc nL own D aX kX A) (hN : lwN D aX kX a H) (hS : va_S A s.heap H locs) {q1 q2 n : Nat} {f1 f2 : Nat → Int32} (h1 : lwR D aX q1 f1 s H) (h2 : lwR D aX q2 f2 s H) (hne : q1 ≠ q2) (hq1 : A q1) (hq2 : A q2) (hn : n ≤ 238) (he : ∀ k, k < n → f1 k = f2 k) (hlk : Jvm.Cond.methodLink own idx yL_same ∈ mx_big) (hsz : ls.size = nL) (hr : (rest.map fun v => v.category).sum ≤ 8) (hdg : decode cc pc = .ok (.invokestatic idx, 3)) (hR : 2 ≤ R.frames ∧ 80 ≤ R.locals) (hc : cells ≤ R.cells ∧ slots ≤ R.slots)
    (kk : ∀ (H1 : Heap) (locs1 : List Loc), lwN D aX kX a H1 → lwR D aX q1 f1 s H1 → va_S A s.heap H1 locs1 → W p l e R s m args below meth c H1 locs1 cells slots Q (F0 m (pc + 3) ls (.int (nI 1) :: rest))) : W p l e R s m args below meth c H locs cells slots Q (F0 m pc ls (.int (nI n) :: .ref q2 :: .ref q1 :: rest)) := by
  obtain ⟨F, hK, hD, hA⟩ := X
  obtain ⟨⟨c1, hP1, hK1⟩, hx1⟩ := id h1
  obtain ⟨⟨c2, hP2, hK2⟩, hx2⟩ := id h2
  let w : mx_Wd := (fun _ _ => 0, fun k => if k = 0 then f1 else f2, fun _ _ => 0, fun _ _ => 0)
  let ad : Nat → Nat := fun k => if k = 0 then q1 else q2
  let cA : Nat → ClassId := fun k => if k = 0 then c1 else c2
  have hw : mx_cc ad cA lS2 w = [(q1, .inl (c1, (238, .inl f1))), (q2, .inl (c2, (238, .inl f2)))] := rfl
  have hP : va_P D vwCl (mx_cc ad cA lS2 w) H := by
    rw [hw]
    intro k x hx
    match k, hx with
    | 0, hx => exact hP1 0 x hx
    | 1, hx => exact hP2 0 x hx
  have hKS : mx_K D cA lS2 s := ⟨hK.1, fun k kd n' rs hk => by
    match k, hk with
    | 0, hk => cases hk; exact hK1.2 0 _ rfl
    | 1, hk => cases hk; exact hK2.2 0 _ rfl⟩
  have hDS : va_D A (mx_cc ad cA lS2 w) := by
    rw [hw]
    refine ⟨fun i j x y hi hj exy => ?_, fun k x hx => ?_⟩
    · match i, j, hi, hj with
      | 0, 0, _, _ => rfl
      | 1, 1, _, _ => rfl
      | 0, 1, hi, hj => cases hi; cases hj; exact absurd exy hne
      | 1, 0, hi, hj => cases hi; cases hj; exact absurd exy.symm hne
    · match k, hx with
      | 0, hx => cases hx; exact hq1
      | 1, hx => cases hx; exact hq2
  obtain ⟨mm', hm', hMet⟩ := mx_sem_ok mx_hy l 1 117 [.ref 0, .ref 1, .int (nI n)] w _ (pL_same (d := 0) (w := w) hn he)
  cases (show mx_mt 117 = some mL_same from rfl).symm.trans hm'
  refine lw_S (as := [.ref 0, .ref 1, .int (nI n)]) (w := w) (lay := lS2) (ad := ad) (cA := cA) (id := 117) (mm := mL_same) (dd := 1) (mc := 0) (ms := 0) F rfl rfl (hMet ad cA D H.size) (fun _ _ _ _ h => h.2) hlk (show (parseMethodDescriptor mL_same.1.desc).map (fun d => d.parameters.length) = some 3 from by decide +kernel) hP hKS hDS hS hA hsz hr hdg ⟨hR.1, hR.2⟩ hc ?_
  rintro v' st t H1 locs1 hst rfl hvm ⟨⟨v2, w', ho, ⟨rfl, rfl⟩, hP'⟩, -⟩ hS1 hk1
  cases ho
  have hP'' : va_P D vwCl [(q1, .inl (c1, (238, .inl f1))), (q2, .inl (c2, (238, .inl f2)))] t.heap := hP'
  refine kk t.heap locs1 (hN.kept fun k hk hlt => ?_) ⟨⟨c1, fun k x hx => ?_, hK1⟩, hx1⟩ hS1
  · refine hk1 _ hlt ?_
    rw [hw]
    rintro (⟨i, x, hi⟩ | hi)
    · match i, hi with
      | 0, hi => cases hi; exact hx1 k hk rfl
      | 1, hi => cases hi; exact hx2 k hk rfl
    · omega
  · cases k with
    | zero => cases hx; exact hP'' 0 _ rfl
    | succ k => cases hx
/-- a method of the class, that answers an int -/
theorem lw_cls {id dd : Nat} {mm : mx_M} {asr : List Value} {r : aR} (X : lwF p s m args c cc nL own D aX kX A) (hN : lwN D aX kX a H) (hS : va_S A s.heap H locs) (hm : mx_mt id = some mm) (hst : mm.2.2.2.2.1 = false) (hcl : (vwCl[10]?).map (fun q => q.1) = some mm.1.cls) (hG : ∀ w, RX w a → mx_ca mx_lX dd id (.ref 0 :: asr) w (oQX r)) (hv : vS r.2) (hlk : Jvm.Cond.methodLink own idx mm.1 ∈ mx_big) (hnp : (parseMethodDescriptor mm.1.desc).map (fun d => d.parameters.length) = some asr.length) (has : asr.map (mx_cv aX) = asr) (hsz : ls.size = nL) (hr : (rest.map fun v => v.category).sum ≤ 8) (hdg : decode cc pc = .ok (.invokevirtual idx, 3)) (hR : dd + 1 ≤ R.frames ∧ 40 + 40 * dd ≤ R.locals) (hc : cells ≤ R.cells ∧ slots ≤ R.slots)
    (kk : ∀ (H1 : Heap) (locs1 : List Loc), lwN D aX kX r.2 H1 → va_S A s.heap H1 locs1 → (∀ q', q' < H.size → (∀ k, k < 69 → aX k ≠ q') → H1[q']? = H[q']?) → W p l e R s m args below meth c H1 locs1 cells slots Q (F0 m (pc + 3) ls (.int r.1 :: rest))) : W p l e R s m args below meth c H locs cells slots Q (F0 m pc ls (asr.reverse ++ .ref (aX 0) :: rest)) := by
  obtain ⟨F, hK, hD, hA⟩ := X
  obtain ⟨v, w, rr, hP⟩ := hN
  refine lw_V F hm hst hcl (hG w rr) hlk hnp has hP hK hD hS hA hsz hr hdg hR hc ?_
  rintro v' w' H1 locs1 ⟨rfl, r'⟩ hP1 hS1 hk1
  exact kk H1 locs1 ⟨hv, w', r', hP1⟩ hS1 fun q' h1 h2 => hk1 q' h1 (lX_out h1 h2)
/-- a method of the law's, over the object -/
theorem lw_sta {id dd mc ms : Nat} {mm : mx_M} {asr : List Value} {Qa : mx_Po} (X : lwF p s m args c cc nL own D aX kX A) (hN : lwN D aX kX a H) (hS : va_S A s.heap H locs) (hm : mx_mt id = some mm) (hst : mm.2.2.2.2.1 = true) (hM : ∀ w, RX w a → Met l mm.1 (mx_ws mx_big mm) (mx_rmc dd mc ms) (mx_Pc aX kX D mx_lX H.size (.ref 0 :: asr) w) (mx_Qc aX kX D mx_lX Qa (va_A (mx_cc aX kX mx_lX w) H.size)) mc ms (va_A (mx_cc aX kX mx_lX w) H.size)) (hlk : Jvm.Cond.methodLink own idx mm.1 ∈ mx_big) (hnp : (parseMethodDescriptor mm.1.desc).map (fun d => d.parameters.length) = some (asr.length + 1)) (has : asr.map (mx_cv aX) = asr) (hsz : ls.size = nL) (hr : (rest.map fun v => v.category).sum ≤ 8) (hdg : decode cc pc = .ok (.invokestatic idx, 3)) (hR : dd + 1 ≤ R.frames ∧ 40 + 40 * dd ≤ R.locals) (hc : cells + mc ≤ R.cells ∧ slots + ms ≤ R.slots)
    (kk : ∀ (v : Option Value) (w' : mx_Wd) (H1 : Heap) (locs1 : List Loc), Qa v w' → va_P D vwCl (mx_cc aX kX mx_lX w') H1 → va_S A s.heap H1 locs1 → (∀ q', q' < H.size → (∀ k, k < 69 → aX k ≠ q') → H1[q']? = H[q']?) → W p l e R s m args below meth c H1 locs1 (cells + mc) (slots + ms) Q (F0 m (pc + 3) ls ((v.map (mx_cv aX)).toList ++ rest))) : W p l e R s m args below meth c H locs cells slots Q (F0 m pc ls (asr.reverse ++ .ref (aX 0) :: rest)) := by
  obtain ⟨F, hK, hD, hA⟩ := X
  obtain ⟨v, w, rr, hP⟩ := hN
  have e1 : ((Value.ref 0 :: asr).map (mx_cv aX)).reverse ++ rest = asr.reverse ++ .ref (aX 0) :: rest := by
    rw [List.map_cons, has, List.reverse_cons, List.append_assoc]
    rfl
  rw [← e1]
  refine lw_S (as := .ref 0 :: asr) (w := w) (id := id) (mm := mm) F hm hst (hM w rr) (fun _ _ _ _ h => h.2) hlk (by rw [List.length_cons]; exact hnp) hP hK (hD w) hS hA hsz hr hdg hR hc ?_
  rintro v' st t H1 locs1 hst rfl hvm ⟨⟨v2, w', ho, hv, hP'⟩, -⟩ hS1 hk1
  cases ho
  exact kk v2 w' t.heap locs1 hv hP' hS1 fun q' h1 h2 => hk1 q' h1 (lX_out h1 h2)
/-- a method of the small machine has a contract -/
theorem lw_met {id dd : Nat} {mm : mx_M} {asr : List Value} {Qa : mx_Po} (hm : mx_mt id = some mm) (hG : ∀ w, RX w a → mx_ca mx_lX dd id (.ref 0 :: asr) w Qa) : ∀ w, RX w a → ∀ sz, Met l mm.1 (mx_ws mx_big mm) (mx_rmc dd 0 0) (mx_Pc aX kX D mx_lX sz (.ref 0 :: asr) w) (mx_Qc aX kX D mx_lX Qa (va_A (mx_cc aX kX mx_lX w) sz)) 0 0 (va_A (mx_cc aX kX mx_lX w) sz) := by
  intro w r sz
  obtain ⟨mm', hm', hMet⟩ := mx_sem_ok mx_hy l dd id _ w Qa (hG w r)
  cases hm.symm.trans hm'
  exact hMet aX kX D sz
end LCAL
