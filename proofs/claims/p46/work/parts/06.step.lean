/-! one instruction, a block, a method: the walk W follows the small machine -/
section MXW
variable {T : mx_T} {mt : Nat → Option mx_M} {big : List Jvm.Cond} {lay : mx_Lay} {kq : Nat × Nat × Nat × Nat}
variable {p : Program} {l : Launch} {e : Env} {d : Nat} {s : State} {m : MethodId} {args : Array Value} {below : List Frame} {meth : Method} {c : Code}
variable {cc : ByteArray} {own : String} {nL : Nat} {ret : Option FieldType} {ad : Nat → Nat} {cA : Nat → ClassId} {D : va_G} {A : Nat → Prop} {Qa : mx_Po} {Ga : mx_Ga} {J : mx_J}
/-- kq: the cells and slots that the frame has made, and those that it may make in all -/
def mx_WG (lay : mx_Lay) (kq : Nat × Nat × Nat × Nat) (p : Program) (l : Launch) (e : Env) (d : Nat) (s : State) (m : MethodId) (args : Array Value) (below : List Frame) (meth : Method) (c : Code) (nL : Nat) (ad : Nat → Nat) (cA : Nat → ClassId) (D : va_G) (A : Nat → Prop) (Qa : mx_Po) (pc : Nat) : mx_Kt := fun lo st w =>
  ∀ (H : Heap) (locs : List Loc) (ls : Array Slot), mx_LR ad nL lo ls → va_P D vwCl (mx_cc ad cA lay w) H → va_S A s.heap H locs →
    W p l e (mx_rmc (d + 1) kq.2.2.1 kq.2.2.2) s m args below meth c H locs kq.1 kq.2.1 (MQ below (mx_Qc ad cA D lay Qa A) args s kq.2.2.1 kq.2.2.2 A) (F0 m pc ls (st.map (mx_cv ad)))
def mx_Fix (T : mx_T) (mt : Nat → Option mx_M) (big : List Jvm.Cond) (lay : mx_Lay) (kq : Nat × Nat × Nat × Nat) (p : Program) (l : Launch) (d : Nat) (s : State) (m : MethodId) (args : Array Value) (meth : Method) (c : Code) (cc : ByteArray) (own : String) (nL : Nat) (ret : Option FieldType) (ad : Nat → Nat) (cA : Nat → ClassId) (D : va_G) (A : Nat → Prop) (Ga : mx_Ga) : Prop :=
  mx_Hy T mt big ∧ (kq.1 ≤ kq.2.2.1 ∧ kq.2.1 ≤ kq.2.2.2) ∧ CallFix p m c cc nL s args big own ∧ meth.sig.returnType = ret ∧ meth.locks = false ∧ mx_K D cA lay s ∧ (∀ w, va_D A (mx_cc ad cA lay w)) ∧ mx_Str ad A s s.heap ∧ (∀ q, s.heap.size ≤ q → A q) ∧ (∀ id as w Q, Ga id as w Q → mx_Ok mt big lay l d id as w Q)
theorem mx_rm_fr (d a b : Nat) : 1 ≤ (mx_rmc (d + 1) a b).frames := Nat.le_add_left 1 d
theorem mx_rm_lo (d a b : Nat) : 40 ≤ (mx_rmc (d + 1) a b).locals := by show 40 ≤ 40 * (d + 1); omega
theorem mx_WA {q : Nat} {w : mx_Wd} {H : Heap} {locs : List Loc} (hD : ∀ w, va_D A (mx_cc ad cA lay w)) (hA : ∀ q, s.heap.size ≤ q → A q) (hS : va_S A s.heap H locs) (h : va_A (mx_cc ad cA lay w) H.size q) : A q := by
  rcases h with ⟨k, e, h⟩ | h
  · exact (hD w).2 k (q, e) h
  · exact hA q (Nat.le_trans hS.1 h)
/-- a call of one of the table's methods -/
theorem mx_call_ok (X : mx_Fix T mt big lay kq p l d s m args meth c cc own nL ret ad cA D A Ga) {pc : Nat} {lo : mx_Lo} {as rest : List Value} {w : mx_Wd} {H : Heap} {locs : List Loc} {ls : Array Slot} {id idx : Nat} {Qn : mx_Po} {mm : mx_M} (hm : mt id = some mm) (hin : (own, idx, id) ∈ T.2.1)
    (hG : Ga id as w Qn) (hL : mx_LR ad nL lo ls) (hP : va_P D vwCl (mx_cc ad cA lay w) H) (hS : va_S A s.heap H locs) (hr4 : mx_l8 rest)
    (hk : (mm.2.2.2.2.1 = true ∧ (parseMethodDescriptor mm.1.desc).map (fun d => d.parameters.length) = some as.length ∧ decode cc pc = .ok (.invokestatic idx, 3)) ∨ (mm.2.2.2.2.1 = false ∧ ∃ f k asr, as = .ref k :: asr ∧ mx_isO lay k f = true ∧ (vwCl[f]?).map (fun q => q.1) = some mm.1.cls ∧ (parseMethodDescriptor mm.1.desc).map (fun d => d.parameters.length + 1) = some as.length ∧ decode cc pc = .ok (.invokevirtual idx, 3)))
    (kk : ∀ v w', Qn v w' → mx_WG lay kq p l e d s m args below meth c nL ad cA D A Qa (pc + 3) lo (mx_ov v rest) w') :
    W p l e (mx_rmc (d + 1) kq.2.2.1 kq.2.2.2) s m args below meth c H locs kq.1 kq.2.1 (MQ below (mx_Qc ad cA D lay Qa A) args s kq.2.2.1 kq.2.2.2 A) (F0 m pc ls ((as.reverse ++ rest).map (mx_cv ad))) := by
  obtain ⟨hy, hk0, hF, hret, hlk, hK, hD, hStr, hA, hGa⟩ := X
  obtain ⟨m', hm', hMet⟩ := hGa _ _ _ _ hG
  cases hm.symm.trans hm'
  obtain ⟨hok, hcb, hib, hnm, hst⟩ := hy.2.2.2.2.2.2.2.2.2.2.2.2.2.1 id mm hm
  have hml := hy.2.1 _ hin mm hm
  have hgood := hy.2.2.2.2.2.2.2.2.2.2.2.2.2.2
  have hts := hF.2.2.2.2
  have hmax : mm.2.2.1 ≤ 21 := by
    have := hok
    unfold mx_okM at this
    simp only [Bool.and_eq_true, decide_eq_true_eq] at this
    exact this.1.1
  have hGI : GoodIn big (mx_ws big mm) := by
    intro w hw
    rcases List.mem_cons.mp hw with rfl | hw
    · exact ⟨hcb, good_of_word (hgood _ hcb)⟩
    · exact ⟨hw, good_of_word (hgood w hw)⟩
  have hPcU : ∀ U : State, U.heap = H → s.WarmedH U.vm → mx_Pc ad cA D lay H.size as w (as.map (mx_cv ad)).toArray U := by
    intro U hU hW
    refine ⟨rfl, by rw [hU], by rw [hU]; exact hP, hK.moved hW.alike, (hD w).weaken (fun _ _ _ _ => trivial), ?_⟩
    exact hStr.call hS (fun q h => mx_WA hD hA hS h) hW hU
  have hFr : ∀ q, va_A (mx_cc ad cA lay w) H.size q → A q := fun q h => mx_WA hD hA hS h
  rcases hk with ⟨hstt, hnp, hdg⟩ | ⟨hstt, f, k, asr, has, hiso, hcls, hnp, hdg⟩
  · rw [if_pos hstt] at hst
    have hCB : CallB (mx_rmc (d + 1) kq.2.2.1 kq.2.2.2) s args own idx mm.1 mm.2.1 mm.2.2.1 mm.2.2.2.1 (mx_ws big mm) (mx_rm d) 0 0 as.length :=
      callB_of as.length hts hGI rfl rfl rfl (hts _ hib) (hts _ hml) ⟨hnm.1, hnm.2, hnp⟩ ⟨Nat.le_refl _, by show 8 + (mm.2.2.1 + 11) + 40 * d ≤ 40 * (d + 1); omega⟩
    refine mx_callW (A1 := va_A (mx_cc ad cA lay w) H.size) (free := va_A (mx_cc ad cA lay w) H.size) (rest := rest.map (mx_cv ad)) (Qa := Qn) (ar := (as.map (mx_cv ad)).toArray)
      (va_runS (n := as.length) hF (hMet ad cA D H.size) ⟨hCB, hts _ hst⟩ ⟨mx_Pc_blind, fun U hU hW => hPcU U hU hW⟩ rfl (by simp) hL.1 (by simp) (lv_room (mx_cats8 hr4)) hdg ⟨hk0.1, hk0.2⟩) hS (fun q _ h => hFr q h) hFr fun v w' H1 locs1 hq hP1 hS1 => ?_
    have := kk v w' hq H1 locs1 ls hL hP1 hS1
    cases v with
    | none => exact this
    | some z => exact this
  · rw [if_neg (by rw [hstt]; decide)] at hst
    subst has
    obtain ⟨fs, hlay⟩ := mx_isO_x hiso
    have hcell := mx_cc_at (ad := ad) (cA := cA) (w := w) hlay
    obtain ⟨⟨C, TT, N⟩, hq, hC⟩ := Option.map_eq_some_iff.mp hcls
    dsimp only at hC
    subst hC
    have hCB : CallB (mx_rmc (d + 1) kq.2.2.1 kq.2.2.2) s args own idx mm.1 mm.2.1 mm.2.2.1 mm.2.2.2.1 (mx_ws big mm) (mx_rm d) 0 0 asr.length := by
      refine callB_of asr.length hts hGI rfl rfl rfl (hts _ hib) (hts _ hml) ⟨hnm.1, hnm.2, ?_⟩ ⟨Nat.le_refl _, by show 8 + (mm.2.2.1 + 11) + 40 * d ≤ 40 * (d + 1); omega⟩
      cases hpd : parseMethodDescriptor mm.1.desc with
      | none => rw [hpd] at hnp; cases hnp
      | some z =>
        rw [hpd] at hnp
        simp only [Option.map_some, List.length_cons, Option.some.injEq] at hnp ⊢
        omega
    refine mx_callW (A1 := va_A (mx_cc ad cA lay w) H.size) (free := va_A (mx_cc ad cA lay w) H.size) (rest := rest.map (mx_cv ad)) (Qa := Qn) (ar := ((Value.ref k :: asr).map (mx_cv ad)).toArray)
      (va_runV (n := asr.length) (As := asr.map (mx_cv ad)) (b := ad k) hF (hMet ad cA D H.size) ⟨hCB, hts _ hst.1, hts _ hst.2⟩ ⟨mx_Pc_blind, va_recv (hK.cl) hP hq hcell, fun U hU hW => hPcU U hU hW⟩ rfl (by simp) hL.1 (by simp [mx_cv]) (lv_room (mx_cats8 hr4)) hdg ⟨hk0.1, hk0.2⟩) hS (fun q _ h => hFr q h) hFr fun v w' H1 locs1 hq hP1 hS1 => ?_
    have := kk v w' hq H1 locs1 ls hL hP1 hS1
    cases v with
    | none => exact this
    | some z => exact this
end MXW
