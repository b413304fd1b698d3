/-! calls out of the law's own frames -/
section LWK
variable {p : Program} {l : Launch} {e : Env} {R : Room} {s : State} {m : MethodId} {args : Array Value} {below : List Frame} {meth : Method} {c : Code} {H : Heap} {locs : List Loc} {cells slots : Nat} {Q : State → Prop}
variable {pc : Nat} {ls : Array Slot} {rest st0 : List Value} {ar : Array Value} {A A1 : Nat → Prop} {free : Addr → Prop} {cc : ByteArray} {own : String} {nL : Nat} {D : va_G}
theorem lw_run {mc ms : Nat} {Qc : State → Outcome → State → Prop} (hF : ∀ st oc t, Qc st oc t → va_F A1 st t) (hr : va_Run p l e R s m args below meth c H locs cells slots mc ms (F0 m pc ls st0) rest Qc free) (hS : va_S A s.heap H locs) (hA : ∀ q, q < H.size → A1 q → A q) (hf : ∀ q, free q → A q)
    (kk : ∀ (v : Option Value) (st t : State) (H1 : Heap) (locs1 : List Loc), st.heap = H → t.heap = H1 → s.vm.Alike t.vm → Qc st (.returned v) t → va_S A s.heap H1 locs1 → (∀ q : Nat, q < H.size → ¬ A1 q → H1[q]? = H[q]?) → W p l e R s m args below meth c H1 locs1 (cells + mc) (slots + ms) Q (F0 m (pc + 3) ls (v.toList ++ rest))) : W p l e R s m args below meth c H locs cells slots Q (F0 m pc ls st0) := by
  intro T hT X
  obtain ⟨v, st₀, t, T', L, h0, X', hL, e1, e2, hQ, st⟩ := hr T hT X
  obtain ⟨hz, hk⟩ := hF _ _ _ hQ
  rw [h0] at hz hk
  obtain ⟨t2, a1, b1⟩ := kk v st₀ t T'.heap (locs ++ L) h0 e1.symm (by rw [← e2]; exact X'.warmed.alike) hQ
    ⟨Nat.le_trans hS.1 (by rw [e1]; exact hz), fun q h1 h2 => by rw [e1, hk q (Nat.lt_of_lt_of_le h1 hS.1) (fun z => h2 (hA q (Nat.lt_of_lt_of_le h1 hS.1) z))]; exact hS.2.1 q h1 h2, fun q hq => by
      rcases List.mem_append.mp hq with h | h
      · exact hS.2.2 q h
      · exact hf _ (hL q h)⟩ (fun q h1 h2 => by rw [e1]; exact hk q h1 h2) T' rfl X'
  exact ⟨t2, st t2 a1, b1⟩
/-- a static method of the law's -/
theorem lw_S {lay : mx_Lay} {ad : Nat → Nat} {cA : Nat → ClassId} {id idx dd mc ms : Nat} {mm : mx_M} {as : List Value} {w : mx_Wd} {Qc : Array Value → State → Outcome → State → Prop} (F : CallFix p m c cc nL s args mx_big own) (hm : mx_mt id = some mm) (hst : mm.2.2.2.2.1 = true)
    (hM : Met l mm.1 (mx_ws mx_big mm) (mx_rmc dd mc ms) (mx_Pc ad cA D lay H.size as w) Qc mc ms (va_A (mx_cc ad cA lay w) H.size)) (hF : ∀ a st oc t, Qc a st oc t → va_F (va_A (mx_cc ad cA lay w) H.size) st t)
    (hlk : Jvm.Cond.methodLink own idx mm.1 ∈ mx_big) (hnp : (parseMethodDescriptor mm.1.desc).map (fun d => d.parameters.length) = some as.length) (hP : va_P D vwCl (mx_cc ad cA lay w) H) (hK : mx_K D cA lay s) (hDD : va_D A (mx_cc ad cA lay w)) (hS : va_S A s.heap H locs) (hAn : ∀ q, s.heap.size ≤ q → A q) (hsz : ls.size = nL) (hr : (rest.map fun v => v.category).sum ≤ 8) (hdg : decode cc pc = .ok (.invokestatic idx, 3)) (hR : dd + 1 ≤ R.frames ∧ 40 + 40 * dd ≤ R.locals) (hc : cells + mc ≤ R.cells ∧ slots + ms ≤ R.slots)
    (kk : ∀ (v : Option Value) (st t : State) (H1 : Heap) (locs1 : List Loc), st.heap = H → t.heap = H1 → s.vm.Alike t.vm → Qc (as.map (mx_cv ad)).toArray st (.returned v) t → va_S A s.heap H1 locs1 → (∀ q : Nat, q < H.size → ¬ va_A (mx_cc ad cA lay w) H.size q → H1[q]? = H[q]?) → W p l e R s m args below meth c H1 locs1 (cells + mc) (slots + ms) Q (F0 m (pc + 3) ls (v.toList ++ rest))) :
    W p l e R s m args below meth c H locs cells slots Q (F0 m pc ls ((as.map (mx_cv ad)).reverse ++ rest)) := by
  obtain ⟨hok, hcb, hib, hnm, hst2⟩ := mx_hy.2.2.2.2.2.2.2.2.2.2.2.2.2.1 id mm hm
  have hgood := mx_hy.2.2.2.2.2.2.2.2.2.2.2.2.2.2
  have hts := F.2.2.2.2
  have hmax := (lm_ok hm).1.1
  have hGI : GoodIn mx_big (mx_ws mx_big mm) := by
    intro w hw
    rcases List.mem_cons.mp hw with rfl | hw
    · exact ⟨hcb, good_of_word (hgood _ hcb)⟩
    · exact ⟨hw, good_of_word (hgood w hw)⟩
  have hFr : ∀ q, va_A (mx_cc ad cA lay w) H.size q → A q := fun q h => by
    rcases h with ⟨k, e, h⟩ | h
    · exact hDD.2 k (q, e) h
    · exact hAn q (Nat.le_trans hS.1 h)
  have hPcU : ∀ U : State, U.heap = H → s.WarmedH U.vm → mx_Pc ad cA D lay H.size as w (as.map (mx_cv ad)).toArray U := fun U hU hW => ⟨rfl, by rw [hU], by rw [hU]; exact hP, hK.moved hW.alike, hDD.weaken (fun _ _ _ _ => trivial), trivial⟩
  rw [if_pos hst] at hst2
  have hCB : CallB R s args own idx mm.1 mm.2.1 mm.2.2.1 mm.2.2.2.1 (mx_ws mx_big mm) (mx_rmc dd mc ms) mc ms as.length :=
    callB_of as.length hts hGI rfl rfl rfl (hts _ hib) (hts _ hlk) ⟨hnm.1, hnm.2, hnp⟩ ⟨hR.1, by show 8 + (mm.2.2.1 + 11) + 40 * dd ≤ R.locals; omega⟩
  exact lw_run (A1 := va_A (mx_cc ad cA lay w) H.size) (free := va_A (mx_cc ad cA lay w) H.size) (rest := rest) (Qc := Qc (as.map (mx_cv ad)).toArray) (hF _)
    (va_runS (n := as.length) F hM ⟨hCB, hts _ hst2⟩ ⟨mx_Pc_blind, fun U hU hW => hPcU U hU hW⟩ rfl (by simp) hsz rfl (lv_room hr) hdg hc) hS (fun q _ h => hFr q h) hFr kk
/-- a method of the class -/
theorem lw_V {aX : Nat → Nat} {kX : Nat → ClassId} {id idx dd : Nat} {mm : mx_M} {asr : List Value} {w : mx_Wd} {Qn : mx_Po} (F : CallFix p m c cc nL s args mx_big own) (hm : mx_mt id = some mm) (hst : mm.2.2.2.2.1 = false) (hcl : (vwCl[10]?).map (fun q => q.1) = some mm.1.cls)
    (hG : mx_ca mx_lX dd id (.ref 0 :: asr) w Qn) (hlk : Jvm.Cond.methodLink own idx mm.1 ∈ mx_big) (hnp : (parseMethodDescriptor mm.1.desc).map (fun d => d.parameters.length) = some asr.length) (has : asr.map (mx_cv aX) = asr) (hP : va_P D vwCl (mx_cc aX kX mx_lX w) H) (hK : mx_K D kX mx_lX s) (hDD : ∀ w, va_D A (mx_cc aX kX mx_lX w)) (hS : va_S A s.heap H locs) (hAn : ∀ q, s.heap.size ≤ q → A q) (hsz : ls.size = nL) (hr : (rest.map fun v => v.category).sum ≤ 8) (hdg : decode cc pc = .ok (.invokevirtual idx, 3)) (hR : dd + 1 ≤ R.frames ∧ 40 + 40 * dd ≤ R.locals) (hc : cells ≤ R.cells ∧ slots ≤ R.slots)
    (kk : ∀ (v : Option Value) (w' : mx_Wd) (H1 : Heap) (locs1 : List Loc), Qn v w' → va_P D vwCl (mx_cc aX kX mx_lX w') H1 → va_S A s.heap H1 locs1 → (∀ q : Nat, q < H.size → ¬ va_A (mx_cc aX kX mx_lX w) H.size q → H1[q]? = H[q]?) → W p l e R s m args below meth c H1 locs1 cells slots Q (F0 m (pc + 3) ls ((v.map (mx_cv aX)).toList ++ rest))) :
    W p l e R s m args below meth c H locs cells slots Q (F0 m pc ls (asr.reverse ++ .ref (aX 0) :: rest)) := by
  obtain ⟨mm', hm', hMet⟩ := mx_sem_ok mx_hy l dd id _ w Qn hG
  cases hm.symm.trans hm'
  obtain ⟨hok, hcb, hib, hnm, hst2⟩ := mx_hy.2.2.2.2.2.2.2.2.2.2.2.2.2.1 id mm hm
  have hgood := mx_hy.2.2.2.2.2.2.2.2.2.2.2.2.2.2
  have hts := F.2.2.2.2
  have hmax := (lm_ok hm).1.1
  have hGI : GoodIn mx_big (mx_ws mx_big mm) := by
    intro w hw
    rcases List.mem_cons.mp hw with rfl | hw
    · exact ⟨hcb, good_of_word (hgood _ hcb)⟩
    · exact ⟨hw, good_of_word (hgood w hw)⟩
  have hFr : ∀ q, va_A (mx_cc aX kX mx_lX w) H.size q → A q := fun q h => by
    rcases h with ⟨k, e, h⟩ | h
    · exact (hDD w).2 k (q, e) h
    · exact hAn q (Nat.le_trans hS.1 h)
  have hPcU : ∀ U : State, U.heap = H → s.WarmedH U.vm → mx_Pc aX kX D mx_lX H.size (.ref 0 :: asr) w ((Value.ref 0 :: asr).map (mx_cv aX)).toArray U := fun U hU hW => ⟨rfl, by rw [hU], by rw [hU]; exact hP, hK.moved hW.alike, (hDD w).weaken (fun _ _ _ _ => trivial), trivial⟩
  rw [if_neg (by rw [hst]; decide)] at hst2
  have hiso : mx_isO mx_lX 0 10 = true := rfl
  obtain ⟨fs, hlay⟩ := mx_isO_x hiso
  have hcell := mx_cc_at (ad := aX) (cA := kX) (w := w) hlay
  obtain ⟨⟨C, TT, N⟩, hq, hC⟩ := Option.map_eq_some_iff.mp hcl
  dsimp only at hC
  subst hC
  have hCB : CallB R s args own idx mm.1 mm.2.1 mm.2.2.1 mm.2.2.2.1 (mx_ws mx_big mm) (mx_rm dd) 0 0 asr.length :=
    callB_of asr.length hts hGI rfl rfl rfl (hts _ hib) (hts _ hlk) ⟨hnm.1, hnm.2, hnp⟩ ⟨hR.1, by show 8 + (mm.2.2.1 + 11) + 40 * dd ≤ R.locals; omega⟩
  refine lw_run (A1 := va_A (mx_cc aX kX mx_lX w) H.size) (free := va_A (mx_cc aX kX mx_lX w) H.size) (rest := rest) (Qc := mx_Qc aX kX D mx_lX Qn (va_A (mx_cc aX kX mx_lX w) H.size) ((Value.ref 0 :: asr).map (mx_cv aX)).toArray) (fun _ _ _ h => h.2)
    (va_runV (n := asr.length) (As := asr.map (mx_cv aX)) (b := aX 0) F (hMet aX kX D H.size) ⟨hCB, hts _ hst2.1, hts _ hst2.2⟩ ⟨mx_Pc_blind, va_recv (hK.cl) hP hq hcell, fun U hU hW => hPcU U hU hW⟩ rfl (by simp) hsz (by rw [has] <;> rfl) (lv_room hr) hdg hc) hS (fun q _ h => hFr q h) hFr ?_
  rintro v st t H1 locs1 - rfl - ⟨⟨v', w', ho, hv, hp⟩, -⟩ hS1 hk1
  cases ho
  exact kk v' w' t.heap locs1 hv hp hS1 hk1
end LWK
