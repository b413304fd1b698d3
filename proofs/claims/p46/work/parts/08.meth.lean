/-! a block, a method, every depth -/
section MXM
variable {T : mx_T} {mt : Nat → Option mx_M} {big : List Jvm.Cond} {lay : mx_Lay} {kq : Nat × Nat × Nat × Nat}
variable {p : Program} {l : Launch} {e : Env} {d : Nat} {s : State} {m : MethodId} {args : Array Value} {below : List Frame} {meth : Method} {c : Code}
variable {cc : ByteArray} {own : String} {nL : Nat} {ret : Option FieldType} {ad : Nat → Nat} {cA : Nat → ClassId} {D : va_G} {A : Nat → Prop} {Qa : mx_Po} {Ga : mx_Ga} {J : mx_J}
theorem mx_run_ok (X : mx_Fix T mt big lay kq p l d s m args meth c cc own nL ret ad cA D A Ga) (hJ : ∀ L lo st w, J L lo st w → mx_WG lay kq p l e d s m args below meth c nL ad cA D A Qa L lo st w) :
    ∀ (es : List mx_E) (pc : Nat), mx_okB T mt own cc nL ret pc es = true → ∀ (lo : mx_Lo) (st : List Value) (w : mx_Wd), mx_run lay Ga J Qa es lo st w → mx_WG lay kq p l e d s m args below meth c nL ad cA D A Qa pc lo st w
  | [], _, _, _, _, _, h => h.elim
  | en :: es, pc, hok, lo, st, w, h => by
    obtain ⟨h1, h2⟩ := (Bool.and_eq_true _ _).mp hok
    exact mx_step_ok X h1 h hJ (fun lo st w h => mx_run_ok X hJ es (pc + en.2.1) h2 lo st w h)
theorem mx_blk_in : ∀ (bs : List (Nat × List mx_E)) (L : Nat), mx_blk bs L = [] ∨ (L, mx_blk bs L) ∈ bs
  | [], L => Or.inl rfl
  | (n, b) :: r, L => by
    unfold mx_blk
    by_cases h : n = L
    · rw [if_pos h]
      subst h
      exact Or.inr List.mem_cons_self
    · rw [if_neg h]
      rcases mx_blk_in r L with q | q
      · exact Or.inl q
      · exact Or.inr (List.mem_cons_of_mem _ q)
theorem mx_wl_ok (X : mx_Fix T mt big lay kq p l d s m args meth c cc own nL ret ad cA D A Ga) {bs : List (Nat × List mx_E)} (hbs : (bs.all fun q => mx_okB T mt own cc nL ret q.1 q.2) = true) {L : Nat} {lo : mx_Lo} {st : List Value} {w : mx_Wd} (h : mx_wl lay Ga bs Qa L lo st w) : mx_WG lay kq p l e d s m args below meth c nL ad cA D A Qa L lo st w := by
  refine h (fun L lo st w => mx_WG lay kq p l e d s m args below meth c nL ad cA D A Qa L lo st w) fun L lo st w h => ?_
  rcases mx_blk_in bs L with q | q
  · rw [q] at h
    exact h.elim
  · exact mx_run_ok X (fun _ _ _ _ h => h) _ L (List.all_eq_true.mp hbs _ q) lo st w h
theorem mx_wx_ok (X : mx_Fix T mt big lay kq p l d s m args meth c cc own nL ret ad cA D A Ga) {bs : List (Nat × List mx_E)} (hbs : (bs.all fun q => mx_okB T mt own cc nL ret q.1 q.2) = true) {E : mx_J} (hE : ∀ L lo st w, E L lo st w → mx_WG lay kq p l e d s m args below meth c nL ad cA D A Qa L lo st w) {L : Nat} {lo : mx_Lo} {st : List Value} {w : mx_Wd} (h : mx_wx lay Ga bs Qa E L lo st w) : mx_WG lay kq p l e d s m args below meth c nL ad cA D A Qa L lo st w := by
  refine h (fun L lo st w => mx_WG lay kq p l e d s m args below meth c nL ad cA D A Qa L lo st w) hE fun L lo st w h => ?_
  rcases mx_blk_in bs L with q | q
  · rw [q] at h
    exact h.elim
  · exact mx_run_ok X (fun _ _ _ _ h => h) _ L (List.all_eq_true.mp hbs _ q) lo st w h
end MXM
/-- THE MACHINE FOLLOWS: a call that holds in the small machine is a contract -/
theorem mx_sem_ok {T : mx_T} {mt : Nat → Option mx_M} {big : List Jvm.Cond} {lay : mx_Lay} (hy : mx_Hy T mt big) (l : Launch) : ∀ (d id : Nat) (as : List Value) (w : mx_Wd) (Qa : mx_Po), mx_sem mt lay d id as w Qa → mx_Ok mt big lay l d id as w Qa
  | 0, _, _, _, _, h => h.elim
  | d + 1, id, as, w, Qa, h => by
    unfold mx_sem at h
    cases hm : mt id with
    | none => rw [hm] at h; exact h.elim
    | some mm =>
      rw [hm] at h
      dsimp only at h
      obtain ⟨hlen, hw⟩ := h
      refine ⟨mm, hm, fun ad cA D sz => ?_⟩
      obtain ⟨hok, hcb, hib, hnm, hst⟩ := hy.2.2.2.2.2.2.2.2.2.2.2.2.2.1 id mm hm
      unfold mx_okM at hok
      simp only [Bool.and_eq_true, decide_eq_true_eq] at hok
      refine Met.ofW (cc := mm.2.1) (maxL := mm.2.2.1) (ret := mm.2.2.2.1) hok.1.2 rfl ?_
      intro p e s m args below meth c s₁ B hml hv
      obtain ⟨rfl, hsz, hP, hK, hD0, hStr⟩ := hv
      subst hsz
      have hts := atoms_spec (ws := mx_ws big mm) B.pre
      have hown : s.vm.findClass mm.1.cls = some m.cls := findClass_of_methodNamed B.named
      have X : mx_Fix T mt big lay (0, 0, 0, 0) p l d s m ((as.map (mx_cv ad)).toArray) meth c mm.2.1 mm.1.cls mm.2.2.1 mm.2.2.2.1 ad cA D (va_A (mx_cc ad cA lay w) s.heap.size) (mx_sem mt lay d) :=
        ⟨hy, ⟨Nat.le_refl _, Nat.le_refl _⟩, ⟨B.exec, B.bytes, hml, hown, fun w hw => hts w (List.mem_cons_of_mem _ hw)⟩, B.returns, B.notSynchronized, hK, fun w' => mx_cc_D (w := w) hD0.self, hStr, fun q h => Or.inr h, mx_sem_ok hy l d⟩
      rw [lg_entry_eq]
      exact mx_wl_ok X hok.2 hw s.heap [] _ (mx_LR_en ad hlen) hP va_S.rf
