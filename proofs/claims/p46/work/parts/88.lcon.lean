/-! contracts of the law's own methods that make a row -/
theorem lm_ok {id : Nat} {mm : mx_M} (hm : mx_mt id = some mm) : (mm.2.2.1 ≤ 21 ∧ plainName mm.1.cls = true) ∧ (mm.2.2.2.2.2.all fun q => mx_okB mx_TT mx_mt mm.1.cls mm.2.1 mm.2.2.1 mm.2.2.2.1 q.1 q.2) = true := by
  have hok := (mx_hy.2.2.2.2.2.2.2.2.2.2.2.2.2.1 id mm hm).1
  unfold mx_okM at hok
  simp only [Bool.and_eq_true, decide_eq_true_eq] at hok
  exact hok
theorem lm_met {id : Nat} {mm : mx_M} (hm : mx_mt id = some mm) {d n pc : Nat} {as : List Value} {w : mx_Wd} {Qa : mx_Po} (hint : ∀ v w', Qa v w' → ∃ x : Int32, v = some (.int x)) (hlen : (mx_en as).length ≤ mm.2.2.1) (hn : n ≤ 1000) (hdg : decode mm.2.1 pc = .ok (.newarray .int, 2))
    (h : mx_wjx mx_lX d mm.2.2.2.2.2 Qa (mx_at pc fun lo st w' => no69 lo = true ∧ st = [.int (nI n)] ∧ mx_wj (lE n) d mm.2.2.2.2.2 Qa (pc + 2) lo [.ref 69] (mx_sA w' 69 fun _ => 0)) 0 (mx_ent mm.2.2.1 as) [] w)
    (l : Launch) (ad : Nat → Nat) (cA : Nat → ClassId) (D : va_G) (sz : Nat) : Met l mm.1 (mx_ws mx_big mm) (mx_rmc (d + 1) 1 n) (mx_Pc ad cA D mx_lX sz as w) (mx_Qc ad cA D mx_lX Qa (va_A (mx_cc ad cA mx_lX w) sz)) 1 n (va_A (mx_cc ad cA mx_lX w) sz) := by
  obtain ⟨⟨_, hpl⟩, hbs⟩ := lm_ok hm
  refine Met.ofW (cc := mm.2.1) (maxL := mm.2.2.1) (ret := mm.2.2.2.1) hpl rfl ?_
  intro p e s m args below meth c s₁ B hml hv
  obtain ⟨rfl, hsz, hP, hK, hD0, hStr⟩ := hv
  subst hsz
  have hts := atoms_spec (ws := mx_ws mx_big mm) B.pre
  have hown : s.vm.findClass mm.1.cls = some m.cls := findClass_of_methodNamed B.named
  have X : mx_Fix mx_TT mx_mt mx_big mx_lX (0, 0, 1, n) p l d s m ((as.map (mx_cv ad)).toArray) meth c mm.2.1 mm.1.cls mm.2.2.1 mm.2.2.2.1 ad cA D (va_A (mx_cc ad cA mx_lX w) s.heap.size) (mx_sem mx_mt mx_lX d) :=
    ⟨mx_hy, ⟨Nat.zero_le _, Nat.zero_le _⟩, ⟨B.exec, B.bytes, hml, hown, fun w hw => hts w (List.mem_cons_of_mem _ hw)⟩, B.returns, B.notSynchronized, hK, fun w' => mx_cc_D (w := w) hD0.self, hStr, fun q h => Or.inr h, mx_sem_ok mx_hy l d⟩
  rw [lg_entry_eq]
  refine mx_wx_ok (e := e) (below := below) X hbs ?_ h s.heap [] _ (mx_LR_en ad hlen) hP va_S.rf
  rintro L lo st w' ⟨rfl, h69, rfl, h2⟩
  intro H locs ls hL hP2 hS
  refine lm_new X hbs hn hdg h69 h2 (fun q cq o t hq hKt hQ => ?_) H locs ls hL hP2 hS
  obtain ⟨⟨v, w2, ho, hv, hp⟩, hF⟩ := hQ
  obtain ⟨x, rfl⟩ := hint v w2 hv
  refine ⟨⟨some (.int x), w2, ho, hv, fun k q hk => hp k q ?_⟩, hF⟩
  rw [lE_cc, List.getElem?_append_left (List.getElem?_eq_some_iff.mp hk).1]
  exact hk
/-- what all answers: a new row of what is observed -/
def qAll (ad : Nat → Nat) (cA : Nat → ClassId) (D : va_G) (a : aS) (A : Nat → Prop) : Array Value → State → Outcome → State → Prop := fun _ st oc t => (∃ (q cq : Nat) (w' : mx_Wd) (f : Nat → Int32), oc = .returned (some (.ref q)) ∧ st.heap.size ≤ q ∧ va_K D vwCl [(cq, .int)] t ∧ RX w' a ∧ (∀ k, k < 238 → f k = obs a k) ∧ va_P D vwCl (mx_cc ad cA mx_lX w' ++ [(q, .inl (cq, (238, .inl f)))]) t.heap) ∧ va_F A st t
theorem lm_all {w : mx_Wd} {a : aS} (h : RX w a) (v : vS a) (l : Launch) (ad : Nat → Nat) (cA : Nat → ClassId) (D : va_G) (sz : Nat) : Met l yL_all (mx_ws mx_big mL_all) (mx_rmc 4 1 238) (mx_Pc ad cA D mx_lX sz [.ref 0] w) (qAll ad cA D a (va_A (mx_cc ad cA mx_lX w) sz)) 1 238 (va_A (mx_cc ad cA mx_lX w) sz) := by
  have hm : mx_mt 116 = some mL_all := rfl
  obtain ⟨⟨_, hpl⟩, hbs⟩ := lm_ok hm
  refine Met.ofW (cc := mL_all.2.1) (maxL := 3) (ret := mL_all.2.2.2.1) hpl rfl ?_
  intro p e s m args below meth c s₁ B hml hv
  obtain ⟨rfl, hsz, hP, hK, hD0, hStr⟩ := hv
  subst hsz
  have hts := atoms_spec (ws := mx_ws mx_big mL_all) B.pre
  have hown : s.vm.findClass mL_all.1.cls = some m.cls := findClass_of_methodNamed B.named
  have X : mx_Fix mx_TT mx_mt mx_big mx_lX (0, 0, 1, 238) p l 3 s m (([Value.ref 0].map (mx_cv ad)).toArray) meth c mL_all.2.1 mL_all.1.cls 3 mL_all.2.2.2.1 ad cA D (va_A (mx_cc ad cA mx_lX w) s.heap.size) (mx_sem mx_mt mx_lX 3) :=
    ⟨mx_hy, ⟨Nat.zero_le _, Nat.zero_le _⟩, ⟨B.exec, B.bytes, hml, hown, fun w hw => hts w (List.mem_cons_of_mem _ hw)⟩, B.returns, B.notSynchronized, hK, fun w' => mx_cc_D (w := w) hD0.self, hStr, fun q h => Or.inr h, mx_sem_ok mx_hy l 3⟩
  rw [lg_entry_eq]
  have hL := mx_LR_en ad (as := [Value.ref 0]) (n := 3) (by decide)
  refine lv_sipush (n := 238) (v := nI 238) B.exec B.bytes (by decide +kernel) (by decide) ?_
  refine lm_new (lo := [some (.ref 0), none, none]) (Q2 := allQ a) X hbs (by omega) (by decide +kernel) rfl (pL_all2 h.row v) (fun q cq o t hq hKt hQ => ?_) s.heap [] _ hL hP va_S.rf
  obtain ⟨⟨v', w2, ho, ⟨rfl, hO⟩, hp⟩, hF⟩ := hQ
  refine ⟨⟨q, cq, w2, mx_A w2 69, ?_, hq, hKt, hO.1, hO.2, ?_⟩, hF⟩
  · rw [ho]
    show Outcome.returned (some (Value.ref (ad9 ad q 69))) = _
    rw [show ad9 ad q 69 = q from if_pos rfl]
  · rw [lE_cc] at hp
    exact hp
theorem lQ_int {a : aS} : ∀ v w', lQ a v w' → ∃ x : Int32, v = some (.int x) := fun v w' h => ⟨nI 1, h.1⟩
theorem lm_splits {w : mx_Wd} {a : aS} {s m : Nat} (h : RX w a) (v : vS a) (hs : s < gN a.1) (hm1 : 1 ≤ m) (hm4 : m ≤ 4) (l : Launch) (ad : Nat → Nat) (cA : Nat → ClassId) (D : va_G) (sz : Nat) : Met l yL_splits (mx_ws mx_big mL_splits) (mx_rmc 8 1 (gN a.1)) (mx_Pc ad cA D mx_lX sz [.ref 0, .int (nI s), .int (nI m)] w) (mx_Qc ad cA D mx_lX (lQ a) (va_A (mx_cc ad cA mx_lX w) sz)) 1 (gN a.1) (va_A (mx_cc ad cA mx_lX w) sz) := by
  have hb := v.1.b
  refine lm_met (id := 121) (mm := mL_splits) rfl (d := 7) (pc := 74) lQ_int (Nat.le_of_ble_eq_true rfl) (by omega) (by decide +kernel) ?_ l ad cA D sz
  exact pL_spl1 (d := 0) h v hs fun w' h' => ⟨rfl, rfl, pL_spl2 (d := 0) h'.row v hs hm1 hm4⟩
theorem lm_encodes {w : mx_Wd} {a : aS} {p s : Nat} {z : Int32} (h : RX w a) (v : vS a) (hp1 : 1 ≤ p) (hp : p ≤ 2) (hs : s < gN a.1) (l : Launch) (ad : Nat → Nat) (cA : Nat → ClassId) (D : va_G) (sz : Nat) : Met l yL_encodes (mx_ws mx_big mL_encodes) (mx_rmc 8 1 6) (mx_Pc ad cA D mx_lX sz [.ref 0, .int (nI p), .int (nI s), .int z] w) (mx_Qc ad cA D mx_lX (lQ a) (va_A (mx_cc ad cA mx_lX w) sz)) 1 6 (va_A (mx_cc ad cA mx_lX w) sz) := by
  refine lm_met (id := 122) (mm := mL_encodes) rfl (d := 7) (pc := 45) lQ_int (Nat.le_of_ble_eq_true rfl) (by omega) (by decide +kernel) ?_ l ad cA D sz
  exact pL_enc1 (d := 0) h v hp1 hp hs fun w' o4 he h' => ⟨rfl, rfl, pL_enc2 (d := 0) h'.row v he hp1 hp hs⟩
