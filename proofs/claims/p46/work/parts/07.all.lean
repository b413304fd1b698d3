/-! every instruction -/
section MXV
variable {T : mx_T} {mt : Nat → Option mx_M} {big : List Jvm.Cond} {lay : mx_Lay} {kq : Nat × Nat × Nat × Nat}
variable {p : Program} {l : Launch} {e : Env} {d : Nat} {s : State} {m : MethodId} {args : Array Value} {below : List Frame} {meth : Method} {c : Code}
variable {cc : ByteArray} {own : String} {nL : Nat} {ret : Option FieldType} {ad : Nat → Nat} {cA : Nat → ClassId} {D : va_G} {A : Nat → Prop} {Qa : mx_Po} {Ga : mx_Ga} {J : mx_J}
theorem mx_F0 {pc pc' : Nat} {ls : Array Slot} {st : List Value} {H : Heap} {locs : List Loc} {R : Room} {Q : State → Prop} (h : pc = pc') (k : W p l e R s m args below meth c H locs 0 0 Q (F0 m pc' ls st)) : W p l e R s m args below meth c H locs 0 0 Q (F0 m pc ls st) := h ▸ k
theorem mx_nd {bytes : ByteArray} {pc : Nat} {en : mx_E} (hn : en.1 ≠ .nop) (h : mx_okE T mt own bytes nL ret pc en = true) : decode bytes pc = .ok (en.1, en.2.1) ∧ mx_okI T mt own nL ret pc en = true := by
  unfold mx_okE at h
  split at h
  · rename_i q
    exact absurd q hn
  · rw [Bool.and_eq_true] at h
    exact ⟨of_decide_eq_true h.1, h.2⟩
set_option maxHeartbeats 8000000 in
theorem mx_step_ok (X : mx_Fix T mt big lay kq p l d s m args meth c cc own nL ret ad cA D A Ga) {pc : Nat} {en : mx_E} (hok : mx_okE T mt own cc nL ret pc en = true) {lo : mx_Lo} {st : List Value} {w : mx_Wd} {K : mx_Kt}
    (h : mx_step lay Ga J Qa en lo st w K) (hJ : ∀ L lo st w, J L lo st w → mx_WG lay kq p l e d s m args below meth c nL ad cA D A Qa L lo st w)
    (hKK : ∀ lo st w, K lo st w → mx_WG lay kq p l e d s m args below meth c nL ad cA D A Qa (pc + en.2.1) lo st w) : mx_WG lay kq p l e d s m args below meth c nL ad cA D A Qa pc lo st w := by
  have X0 := X
  obtain ⟨hy, hstr, hF, hret, hlk, hK, hD, hStr, hA, hGa⟩ := X
  obtain ⟨hx, hb, hml, hown, hts⟩ := id hF
  obtain ⟨ins, len, a, b, cn, dn, f⟩ := en
  by_cases hnop : ins = .nop
  · subst hnop
    have e1 : a = pc := of_decide_eq_true hok
    subst e1
    exact hJ _ _ _ _ h
  obtain ⟨hdg, hI⟩ := mx_nd (en := (ins, len, a, b, cn, dn, f)) hnop hok
  dsimp only at hdg hKK
  intro H locs ls hL hP hS
  cases ins with
  | nop => exact absurd rfl hnop
  | iconst n =>
    obtain ⟨e1, e2⟩ := Bool.and_eq_true _ _ ▸ hI
    have e1 : len = 1 := by simpa using e1
    subst e1
    exact lv_iconst hx hb hdg (of_decide_eq_true e2) (hKK _ _ _ h H locs ls hL hP hS)
  | bipush n =>
    obtain ⟨e1, e2⟩ := Bool.and_eq_true _ _ ▸ hI
    have e1 : len = 2 := by simpa using e1
    subst e1
    exact lv_bipush hx hb hdg (of_decide_eq_true e2) (hKK _ _ _ h H locs ls hL hP hS)
  | sipush n =>
    obtain ⟨e1, e2⟩ := Bool.and_eq_true _ _ ▸ hI
    have e1 : len = 3 := by simpa using e1
    subst e1
    exact lv_sipush hx hb hdg (of_decide_eq_true e2) (hKK _ _ _ h H locs ls hL hP hS)
  | ldc i =>
    obtain ⟨e1, e2⟩ := Bool.and_eq_true _ _ ▸ hI
    have e1 : len = 2 := by simpa using e1
    subst e1
    exact lv_ldc hx hb hown (hts _ (hy.2.2.2.2.2.2.2.1 _ (of_decide_eq_true e2))) hdg (hKK _ _ _ h H locs ls hL hP hS)
  | ldc_w i =>
    obtain ⟨e1, e2⟩ := Bool.and_eq_true _ _ ▸ hI
    have e1 : len = 3 := by simpa using e1
    subst e1
    exact lv_ldcw hx hb hown (hts _ (hy.2.2.2.2.2.2.2.1 _ (of_decide_eq_true e2))) hdg (hKK _ _ _ h H locs ls hL hP hS)
  | ldc2_w i =>
    obtain ⟨e1, e2⟩ := Bool.and_eq_true _ _ ▸ hI
    have e1 : len = 3 := by simpa using e1
    subst e1
    match dn, h, e2 with
    | 0, h, e2 => exact lv_ldc2 hx hb hown (hts _ (hy.2.2.2.2.2.2.2.2.1 _ (of_decide_eq_true e2))) hdg (hKK _ _ _ h H locs ls hL hP hS)
    | _ + 1, h, e2 => exact lv_ldc2d hx hb hown (hts _ (hy.2.2.2.2.2.2.2.2.2.1 _ (of_decide_eq_true e2))) hdg (hKK _ _ _ h H locs ls hL hP hS)
  | lconst n =>
    obtain ⟨e1, e2⟩ := Bool.and_eq_true _ _ ▸ hI
    have e1 : len = 1 := by simpa using e1
    subst e1
    exact lv_lconst hx hb hdg (of_decide_eq_true e2) (hKK _ _ _ h H locs ls hL hP hS)
  | dconst n =>
    obtain ⟨e1, e2⟩ := Bool.and_eq_true _ _ ▸ hI
    have e1 : len = 1 := by simpa using e1
    subst e1
    have e2 : (n : Nat) = a := of_decide_eq_true e2
    match n, e2, hdg with
    | 0, e2, hdg =>
      have e2 : a = 0 := e2.symm
      subst e2
      exact lv_dconst0 hx hb hdg (hKK _ _ _ h H locs ls hL hP hS)
    | 1, e2, hdg =>
      have e2 : a = 1 := e2.symm
      subst e2
      exact lv_dconst1 hx hb hdg (hKK _ _ _ h H locs ls hL hP hS)
  | iload i =>
    obtain ⟨e1, e2⟩ := Bool.and_eq_true _ _ ▸ hI
    have e1 : len = 2 := by simpa using e1
    subst e1
    have e2 : i = a := of_decide_eq_true e2
    subst e2
    obtain ⟨x, hg, h⟩ := mx_gI_x h
    exact lv_iload hx hb hdg (mx_LR_at hL hg) (hKK _ _ _ h H locs ls hL hP hS)
  | iload_n i =>
    obtain ⟨e1, e2⟩ := Bool.and_eq_true _ _ ▸ hI
    have e1 : len = 1 := by simpa using e1
    subst e1
    obtain ⟨x, hg, h⟩ := mx_gI_x h
    exact lv_iload_n hx hb hdg (of_decide_eq_true e2) (mx_LR_at hL hg) (hKK _ _ _ h H locs ls hL hP hS)
  | lload i =>
    obtain ⟨e1, e2⟩ := Bool.and_eq_true _ _ ▸ hI
    have e1 : len = 2 := by simpa using e1
    subst e1
    have e2 : i = a := of_decide_eq_true e2
    subst e2
    obtain ⟨x, hg, h⟩ := mx_gL_x h
    exact lv_lload hx hb hdg (mx_LR_at hL hg) (hKK _ _ _ h H locs ls hL hP hS)
  | lload_n i =>
    obtain ⟨e1, e2⟩ := Bool.and_eq_true _ _ ▸ hI
    have e1 : len = 1 := by simpa using e1
    subst e1
    obtain ⟨x, hg, h⟩ := mx_gL_x h
    exact lv_lload_n hx hb hdg (of_decide_eq_true e2) (mx_LR_at hL hg) (hKK _ _ _ h H locs ls hL hP hS)
  | dload i =>
    obtain ⟨e1, e2⟩ := Bool.and_eq_true _ _ ▸ hI
    have e1 : len = 2 := by simpa using e1
    subst e1
    have e2 : i = a := of_decide_eq_true e2
    subst e2
    obtain ⟨x, hg, h⟩ := mx_gD_x h
    exact lv_dload hx hb hdg (mx_LR_at hL hg) (hKK _ _ _ h H locs ls hL hP hS)
  | dload_n i =>
    obtain ⟨e1, e2⟩ := Bool.and_eq_true _ _ ▸ hI
    have e1 : len = 1 := by simpa using e1
    subst e1
    obtain ⟨x, hg, h⟩ := mx_gD_x h
    exact lv_dload_n hx hb hdg (of_decide_eq_true e2) (mx_LR_at hL hg) (hKK _ _ _ h H locs ls hL hP hS)
  | aload i =>
    obtain ⟨e1, e2⟩ := Bool.and_eq_true _ _ ▸ hI
    have e1 : len = 2 := by simpa using e1
    subst e1
    have e2 : i = a := of_decide_eq_true e2
    subst e2
    obtain ⟨x, hg, h⟩ := mx_gR_x h
    exact lv_aload hx hb hdg (mx_LR_at hL hg) (hKK _ _ _ h H locs ls hL hP hS)
  | aload_n i =>
    obtain ⟨e1, e2⟩ := Bool.and_eq_true _ _ ▸ hI
    have e1 : len = 1 := by simpa using e1
    subst e1
    obtain ⟨x, hg, h⟩ := mx_gR_x h
    exact lv_aload_n hx hb hdg (of_decide_eq_true e2) (mx_LR_at hL hg) (hKK _ _ _ h H locs ls hL hP hS)
  | istore i =>
    simp only [mx_okI, Bool.and_eq_true, decide_eq_true_eq, beq_iff_eq] at hI
    obtain ⟨⟨e1, e2⟩, e3⟩ := hI
    subst e1
    obtain ⟨x, r, rfl, h⟩ := mx_pI_x h
    subst e2
    exact lv_istore hx hb hdg hL e3 rfl (fun ls' hl' => hKK _ _ _ h H locs ls' (mx_LR_st1 (v := Value.int x) hl') hP hS)
  | istore_n i =>
    simp only [mx_okI, Bool.and_eq_true, decide_eq_true_eq, beq_iff_eq] at hI
    obtain ⟨⟨e1, e2⟩, e3⟩ := hI
    subst e1
    obtain ⟨x, r, rfl, h⟩ := mx_pI_x h
    exact lv_istore_n hx hb hdg e2 hL e3 rfl (fun ls' hl' => hKK _ _ _ h H locs ls' (mx_LR_st1 (v := Value.int x) hl') hP hS)
  | lstore i =>
    simp only [mx_okI, Bool.and_eq_true, decide_eq_true_eq, beq_iff_eq] at hI
    obtain ⟨⟨e1, e2⟩, e3⟩ := hI
    subst e1
    obtain ⟨x, r, rfl, h⟩ := mx_pL_x h
    subst e2
    exact lv_lstore hx hb hdg hL e3 rfl (fun ls' hl' => hKK _ _ _ h H locs ls' (mx_LR_st2 (v := Value.long x) hl') hP hS)
  | lstore_n i =>
    simp only [mx_okI, Bool.and_eq_true, decide_eq_true_eq, beq_iff_eq] at hI
    obtain ⟨⟨e1, e2⟩, e3⟩ := hI
    subst e1
    obtain ⟨x, r, rfl, h⟩ := mx_pL_x h
    exact lv_lstore_n hx hb hdg e2 hL e3 rfl (fun ls' hl' => hKK _ _ _ h H locs ls' (mx_LR_st2 (v := Value.long x) hl') hP hS)
  | dstore i =>
    simp only [mx_okI, Bool.and_eq_true, decide_eq_true_eq, beq_iff_eq] at hI
    obtain ⟨⟨e1, e2⟩, e3⟩ := hI
    subst e1
    obtain ⟨x, r, rfl, h⟩ := mx_pD_x h
    subst e2
    exact lv_dstore hx hb hdg hL e3 rfl (fun ls' hl' => hKK _ _ _ h H locs ls' (mx_LR_st2 (v := Value.double x) hl') hP hS)
  | dstore_n i =>
    simp only [mx_okI, Bool.and_eq_true, decide_eq_true_eq, beq_iff_eq] at hI
    obtain ⟨⟨e1, e2⟩, e3⟩ := hI
    subst e1
    obtain ⟨x, r, rfl, h⟩ := mx_pD_x h
    exact lv_dstore_n hx hb hdg e2 hL e3 rfl (fun ls' hl' => hKK _ _ _ h H locs ls' (mx_LR_st2 (v := Value.double x) hl') hP hS)
  | astore i =>
    simp only [mx_okI, Bool.and_eq_true, decide_eq_true_eq, beq_iff_eq] at hI
    obtain ⟨⟨e1, e2⟩, e3⟩ := hI
    subst e1
    obtain ⟨x, r, rfl, h⟩ := mx_pR_x h
    subst e2
    exact lv_astore hx hb hdg hL e3 rfl (fun ls' hl' => hKK _ _ _ h H locs ls' (mx_LR_st1 (v := Value.ref x) hl') hP hS)
  | astore_n i =>
    simp only [mx_okI, Bool.and_eq_true, decide_eq_true_eq, beq_iff_eq] at hI
    obtain ⟨⟨e1, e2⟩, e3⟩ := hI
    subst e1
    obtain ⟨x, r, rfl, h⟩ := mx_pR_x h
    exact lv_astore_n hx hb hdg e2 hL e3 rfl (fun ls' hl' => hKK _ _ _ h H locs ls' (mx_LR_st1 (v := Value.ref x) hl') hP hS)
  | iinc i n =>
    simp only [mx_okI, Bool.and_eq_true, decide_eq_true_eq, beq_iff_eq] at hI
    obtain ⟨⟨⟨e1, e2⟩, e3⟩, e4⟩ := hI
    subst e1
    subst e2
    obtain ⟨x, hg, h⟩ := mx_gI_x h
    have hmem : (i, Value.int x) ∈ mx_toA ad 0 lo := mx_toA_mem.mpr ⟨i, _, hg, by simp [mx_cv]⟩
    obtain ⟨k, hk⟩ := List.getElem?_of_mem hmem
    exact lv_iinc hx hb hdg hL hk (by rw [e4]) e3 rfl (fun ls' hl' => hKK _ _ _ h H locs ls' (mx_LR_st1 (v := Value.int (x + mx_cI b cn)) hl') hP hS)
  | iadd =>
    have e1 : len = 1 := by simpa [mx_okI] using hI
    subst e1
    obtain ⟨y, r, rfl, h⟩ := mx_pI_x h
    obtain ⟨x, r, rfl, h⟩ := mx_pI_x h
    exact lv_iadd hx hb hdg (hKK _ _ _ h H locs ls hL hP hS)
  | isub =>
    have e1 : len = 1 := by simpa [mx_okI] using hI
    subst e1
    obtain ⟨y, r, rfl, h⟩ := mx_pI_x h
    obtain ⟨x, r, rfl, h⟩ := mx_pI_x h
    exact lv_isub hx hb hdg (hKK _ _ _ h H locs ls hL hP hS)
  | imul =>
    have e1 : len = 1 := by simpa [mx_okI] using hI
    subst e1
    obtain ⟨y, r, rfl, h⟩ := mx_pI_x h
    obtain ⟨x, r, rfl, h⟩ := mx_pI_x h
    exact lv_imul hx hb hdg (hKK _ _ _ h H locs ls hL hP hS)
  | iand =>
    have e1 : len = 1 := by simpa [mx_okI] using hI
    subst e1
    obtain ⟨y, r, rfl, h⟩ := mx_pI_x h
    obtain ⟨x, r, rfl, h⟩ := mx_pI_x h
    exact lv_iand hx hb hdg (hKK _ _ _ h H locs ls hL hP hS)
  | ior =>
    have e1 : len = 1 := by simpa [mx_okI] using hI
    subst e1
    obtain ⟨y, r, rfl, h⟩ := mx_pI_x h
    obtain ⟨x, r, rfl, h⟩ := mx_pI_x h
    exact lv_ior hx hb hdg (hKK _ _ _ h H locs ls hL hP hS)
  | ishl =>
    have e1 : len = 1 := by simpa [mx_okI] using hI
    subst e1
    obtain ⟨y, r, rfl, h⟩ := mx_pI_x h
    obtain ⟨x, r, rfl, h⟩ := mx_pI_x h
    exact lv_ishl hx hb hdg (hKK _ _ _ h H locs ls hL hP hS)
  | ishr =>
    have e1 : len = 1 := by simpa [mx_okI] using hI
    subst e1
    obtain ⟨y, r, rfl, h⟩ := mx_pI_x h
    obtain ⟨x, r, rfl, h⟩ := mx_pI_x h
    exact lv_ishr hx hb hdg (hKK _ _ _ h H locs ls hL hP hS)
  | iushr =>
    have e1 : len = 1 := by simpa [mx_okI] using hI
    subst e1
    obtain ⟨y, r, rfl, h⟩ := mx_pI_x h
    obtain ⟨x, r, rfl, h⟩ := mx_pI_x h
    exact lv_iushr hx hb hdg rfl (hKK _ _ _ h H locs ls hL hP hS)
  | idiv =>
    have e1 : len = 1 := by simpa [mx_okI] using hI
    subst e1
    obtain ⟨y, r, rfl, h⟩ := mx_pI_x h
    obtain ⟨x, r, rfl, h0, h⟩ := mx_pI_x h
    exact lv_idiv hx hb hdg h0 (hKK _ _ _ h H locs ls hL hP hS)
  | irem =>
    have e1 : len = 1 := by simpa [mx_okI] using hI
    subst e1
    obtain ⟨y, r, rfl, h⟩ := mx_pI_x h
    obtain ⟨x, r, rfl, h0, h⟩ := mx_pI_x h
    exact lv_irem hx hb hdg h0 (hKK _ _ _ h H locs ls hL hP hS)
  | i2l =>
    have e1 : len = 1 := by simpa [mx_okI] using hI
    subst e1
    obtain ⟨x, r, rfl, h⟩ := mx_pI_x h
    exact lv_i2l hx hb hdg rfl (hKK _ _ _ h H locs ls hL hP hS)
  | ladd =>
    have e1 : len = 1 := by simpa [mx_okI] using hI
    subst e1
    obtain ⟨y, r, rfl, h⟩ := mx_pL_x h
    obtain ⟨x, r, rfl, h⟩ := mx_pL_x h
    exact lv_ladd hx hb hdg (hKK _ _ _ h H locs ls hL hP hS)
  | lsub =>
    have e1 : len = 1 := by simpa [mx_okI] using hI
    subst e1
    obtain ⟨y, r, rfl, h⟩ := mx_pL_x h
    obtain ⟨x, r, rfl, h⟩ := mx_pL_x h
    exact lv_lsub hx hb hdg (hKK _ _ _ h H locs ls hL hP hS)
  | lmul =>
    have e1 : len = 1 := by simpa [mx_okI] using hI
    subst e1
    obtain ⟨y, r, rfl, h⟩ := mx_pL_x h
    obtain ⟨x, r, rfl, h⟩ := mx_pL_x h
    exact lv_lmul hx hb hdg (hKK _ _ _ h H locs ls hL hP hS)
  | lrem =>
    have e1 : len = 1 := by simpa [mx_okI] using hI
    subst e1
    obtain ⟨y, r, rfl, h⟩ := mx_pL_x h
    obtain ⟨x, r, rfl, h0, h⟩ := mx_pL_x h
    exact lv_lrem hx hb hdg h0 (hKK _ _ _ h H locs ls hL hP hS)
  | tableswitch df tl th os =>
    simp only [mx_okI, Bool.and_eq_true, decide_eq_true_eq] at hI
    obtain ⟨e1, e2, e3⟩ := hI
    subst e1
    obtain ⟨x, r, rfl, h⟩ := mx_pI_x (k := fun x st => ((x.toInt < tl ∨ th < x.toInt) → J ((a : Int) + df).toNat lo st w) ∧ (¬ (x.toInt < tl ∨ th < x.toInt) → ∃ o, os[(x.toInt - tl).toNat]? = some o ∧ J ((a : Int) + o).toNat lo st w)) h
    by_cases q : x.toInt < tl ∨ th < x.toInt
    · exact lv_tableOut hx hb hdg q (by rw [Int.toNat_of_nonneg e2]) (hJ _ _ _ _ (h.1 q) H locs ls hL hP hS)
    · obtain ⟨o, h1, h2⟩ := h.2 q
      have ho : 0 ≤ (a : Int) + o := of_decide_eq_true (Array.all_eq_true'.mp e3 o (Array.mem_of_getElem? h1))
      exact lv_tableIn hx hb hdg (fun z => q (Or.inl z)) (fun z => q (Or.inr z)) h1 (by rw [Int.toNat_of_nonneg ho]) (hJ _ _ _ _ h2 H locs ls hL hP hS)
  | lor =>
    have e1 : len = 1 := by simpa [mx_okI] using hI
    subst e1
    obtain ⟨y, r, rfl, h⟩ := mx_pL_x h
    obtain ⟨x, r, rfl, h⟩ := mx_pL_x h
    exact lv_lor hx hb hdg (hKK _ _ _ h H locs ls hL hP hS)
  | lshl =>
    have e1 : len = 1 := by simpa [mx_okI] using hI
    subst e1
    obtain ⟨y, r, rfl, h⟩ := mx_pI_x h
    obtain ⟨x, r, rfl, h⟩ := mx_pL_x h
    exact lv_lshl hx hb hdg rfl (hKK _ _ _ h H locs ls hL hP hS)
  | lcmp =>
    have e1 : len = 1 := by simpa [mx_okI] using hI
    subst e1
    obtain ⟨y, r, rfl, h⟩ := mx_pL_x h
    obtain ⟨x, r, rfl, h⟩ := mx_pL_x h
    exact W.lcmp hx hb hdg (hKK _ _ _ h H locs ls hL hP hS)
  | dadd =>
    have e1 : len = 1 := by simpa [mx_okI] using hI
    subst e1
    obtain ⟨y, r, rfl, h⟩ := mx_pD_x h
    obtain ⟨x, r, rfl, h0, h⟩ := mx_pD_x h
    exact lv_dadd hx hb hdg h0 (hKK _ _ _ h H locs ls hL hP hS)
  | dsub =>
    have e1 : len = 1 := by simpa [mx_okI] using hI
    subst e1
    obtain ⟨y, r, rfl, h⟩ := mx_pD_x h
    obtain ⟨x, r, rfl, h0, h⟩ := mx_pD_x h
    exact lv_dsub hx hb hdg h0 (hKK _ _ _ h H locs ls hL hP hS)
  | dmul =>
    have e1 : len = 1 := by simpa [mx_okI] using hI
    subst e1
    obtain ⟨y, r, rfl, h⟩ := mx_pD_x h
    obtain ⟨x, r, rfl, h0, h⟩ := mx_pD_x h
    exact lv_dmul hx hb hdg h0 (hKK _ _ _ h H locs ls hL hP hS)
  | ddiv =>
    have e1 : len = 1 := by simpa [mx_okI] using hI
    subst e1
    obtain ⟨y, r, rfl, h⟩ := mx_pD_x h
    obtain ⟨x, r, rfl, h0, h⟩ := mx_pD_x h
    exact lv_ddiv hx hb hdg h0 (hKK _ _ _ h H locs ls hL hP hS)
  | dcmp op =>
    have e1 : len = 1 := by simpa [mx_okI] using hI
    subst e1
    obtain ⟨y, r, rfl, h⟩ := mx_pD_x h
    obtain ⟨x, r, rfl, h⟩ := mx_pD_x h
    exact lv_dcmp hx hb hdg (hKK _ _ _ h H locs ls hL hP hS)
  | d2l =>
    have e1 : len = 1 := by simpa [mx_okI] using hI
    subst e1
    obtain ⟨x, r, rfl, h⟩ := mx_pD_x h
    exact lv_d2l hx hb hdg (hKK _ _ _ h H locs ls hL hP hS)
  | dup =>
    have e1 : len = 1 := by simpa [mx_okI] using hI
    subst e1
    have h : mx_p1 st fun v st => K lo (v :: v :: st) w := h
    obtain ⟨v, r, rfl, hv, h⟩ := mx_p1_x h
    exact lv_dup hx hb hdg ((mx_cv_cat ad v).trans hv) (hKK _ _ _ h H locs ls hL hP hS)
  | dup2 =>
    have e1 : len = 1 := by simpa [mx_okI] using hI
    subst e1
    have h : mx_p1 st fun v st => mx_p1 st fun u st => K lo (v :: u :: v :: u :: st) w := h
    obtain ⟨v, r, rfl, hv, h⟩ := mx_p1_x h
    obtain ⟨u, r, rfl, hu, h⟩ := mx_p1_x h
    exact lv_dup2_11 hx hb hdg ((mx_cv_cat ad v).trans hv) ((mx_cv_cat ad u).trans hu) (hKK _ _ _ h H locs ls hL hP hS)
  | pop =>
    have e1 : len = 1 := by simpa [mx_okI] using hI
    subst e1
    have h : mx_p1 st fun _ st => K lo st w := h
    obtain ⟨v, r, rfl, hv, h⟩ := mx_p1_x h
    exact lv_pop hx hb hdg ((mx_cv_cat ad v).trans hv) (hKK _ _ _ h H locs ls hL hP hS)
  | goto o =>
    simp only [mx_okI, Bool.and_eq_true, decide_eq_true_eq, beq_iff_eq] at hI
    obtain ⟨e1, e2⟩ := hI
    subst e1
    exact lv_goto hx hb hdg e2 (hJ _ _ _ _ h H locs ls hL hP hS)
  | if_icmp q o =>
    simp only [mx_okI, Bool.and_eq_true, decide_eq_true_eq, beq_iff_eq] at hI
    obtain ⟨e1, e2⟩ := hI
    subst e1
    obtain ⟨y, r, rfl, h⟩ := mx_pI_x h
    obtain ⟨x, r, rfl, h1, h2⟩ := mx_pI_x h
    cases q with
    | eq => exact lv_icmp_eq hx hb hdg e2 (fun z => hJ _ _ _ _ (h1 z) H locs ls hL hP hS) (fun z => hKK _ _ _ (h2 z) H locs ls hL hP hS)
    | ne => exact lv_icmp_ne hx hb hdg e2 (fun z => hJ _ _ _ _ (h1 z) H locs ls hL hP hS) (fun z => hKK _ _ _ (h2 (fun q => q z)) H locs ls hL hP hS)
    | lt => exact lv_icmp_lt hx hb hdg e2 (fun z => hJ _ _ _ _ (h1 z) H locs ls hL hP hS) (fun z => hKK _ _ _ (h2 z) H locs ls hL hP hS)
    | ge => exact lv_icmp_ge hx hb hdg e2 (fun z => hJ _ _ _ _ (h1 z) H locs ls hL hP hS) (fun z => hKK _ _ _ (h2 z) H locs ls hL hP hS)
    | gt => exact lv_icmp_gt hx hb hdg e2 (fun z => hJ _ _ _ _ (h1 z) H locs ls hL hP hS) (fun z => hKK _ _ _ (h2 z) H locs ls hL hP hS)
    | le => exact lv_icmp_le hx hb hdg e2 (fun z => hJ _ _ _ _ (h1 z) H locs ls hL hP hS) (fun z => hKK _ _ _ (h2 z) H locs ls hL hP hS)
  | ifCond q o =>
    simp only [mx_okI, Bool.and_eq_true, decide_eq_true_eq, beq_iff_eq] at hI
    obtain ⟨e1, e2⟩ := hI
    subst e1
    obtain ⟨x, r, rfl, h1, h2⟩ := mx_pI_x h
    cases q with
    | eq => exact lv_if_eq hx hb hdg e2 (fun z => hJ _ _ _ _ (h1 z) H locs ls hL hP hS) (fun z => hKK _ _ _ (h2 z) H locs ls hL hP hS)
    | ne => exact lv_if_ne hx hb hdg e2 (fun z => hJ _ _ _ _ (h1 z) H locs ls hL hP hS) (fun z => hKK _ _ _ (h2 (fun q => q z)) H locs ls hL hP hS)
    | lt => exact lv_if_lt hx hb hdg e2 (fun z => hJ _ _ _ _ (h1 z) H locs ls hL hP hS) (fun z => hKK _ _ _ (h2 z) H locs ls hL hP hS)
    | ge => exact lv_if_ge hx hb hdg e2 (fun z => hJ _ _ _ _ (h1 z) H locs ls hL hP hS) (fun z => hKK _ _ _ (h2 z) H locs ls hL hP hS)
    | gt => exact lv_if_gt hx hb hdg e2 (fun z => hJ _ _ _ _ (h1 z) H locs ls hL hP hS) (fun z => hKK _ _ _ (h2 z) H locs ls hL hP hS)
    | le => exact lv_if_le hx hb hdg e2 (fun z => hJ _ _ _ _ (h1 z) H locs ls hL hP hS) (fun z => hKK _ _ _ (h2 z) H locs ls hL hP hS)
  | getfield i =>
    simp only [mx_okI, Bool.and_eq_true, decide_eq_true_eq, beq_iff_eq] at hI
    obtain ⟨e1, e2⟩ := hI
    subst e1
    obtain ⟨k, r, rfl, h⟩ := mx_pR_x h
    obtain ⟨C, TT, N, hq, hkN, hown2, hlink⟩ := hy.1 _ (List.mem_of_getElem? e2)
    dsimp only at hq hkN hown2 hlink
    have hin := (hy.2.2.2.2.2.2.2.2.2.2.2.2.1 _ _ _ _ hq).1
    rcases mx_wF_x h with ⟨k', ho, h⟩ | ⟨ho, h⟩
    · obtain ⟨fs, hlay, hfs⟩ := mx_fld_x ho
      exact va_get (D := D) (cl := vwCl) (tys := []) hx hb hts hin hown hK.cl hP k (mx_cc_at hlay) hq b hkN (hts _ hlink) (fun _ h9 => by rw [hown2] at h9; exact h9) (mx_fs_at hfs) hdg (hKK _ _ _ h H locs ls hL hP hS)
    · obtain ⟨fs, hlay, hfs⟩ := mx_fld_x ho
      exact va_get (D := D) (cl := vwCl) (tys := []) hx hb hts hin hown hK.cl hP k (mx_cc_at hlay) hq b hkN (hts _ hlink) (fun _ h9 => by rw [hown2] at h9; exact h9) (mx_fs_at hfs) hdg (hKK _ _ _ h H locs ls hL hP hS)
  | putfield i =>
    simp only [mx_okI, Bool.and_eq_true, decide_eq_true_eq, beq_iff_eq] at hI
    obtain ⟨⟨e1, e2⟩, e3⟩ := hI
    subst e1
    obtain ⟨x, r, rfl, h⟩ := mx_pI_x h
    obtain ⟨k, r, rfl, h⟩ := mx_pR_x h
    obtain ⟨C, TT, N, hq, hkN, hown2, hlink⟩ := hy.1 _ (List.mem_of_getElem? e2)
    dsimp only at hq hkN hown2 hlink
    obtain ⟨hin, ⟨ty0, hty⟩, hnm⟩ := hy.2.2.2.2.2.2.2.2.2.2.2.2.1 _ _ _ _ hq
    rw [hq] at e3
    rcases mx_wF_x h with ⟨k', ho, h⟩ | ⟨ho, h⟩
    · exact h.elim
    obtain ⟨fs, hlay, hfs⟩ := mx_fld_x ho
    have hlen : b < (mx_fs ad w k fs).length := by
      have := (List.getElem?_eq_some_iff.mp hfs).1
      simpa [mx_fs] using this
    have hset : ∀ x : Int32, (mx_cc ad cA lay w).set k (ad k, .inr (a, (mx_fs ad w k fs).set b (.int x))) = mx_cc ad cA lay (mx_sF w k b x) := fun x => mx_cc_set hlay (by rw [mx_fs_set hfs]; rfl) (fun i c hne => mx_cell_sF i c hne)
    match dn, h, e3 with
    | 0, h, e3 =>
      simp only [Bool.and_eq_true, decide_eq_true_eq] at e3
      refine va_put (D := D) (cl := vwCl) (tys := []) (ty := .int) hx hb hts hin ty0 hty hnm hown hK.cl hP (hD w) hS k (mx_cc_at hlay) hq b hkN (hts _ hlink) (fun _ h9 => by rw [hown2] at h9; exact h9) e3.1 e3.2 rfl rfl hlen hdg (fun H1 locs1 hP1 hD1 hS1 => ?_)
      exact hKK _ _ _ h H1 locs1 ls hL (hset x ▸ hP1) hS1
    | _ + 1, h, e3 =>
      simp only [Bool.and_eq_true, decide_eq_true_eq] at e3
      have hz : narrow .boolean (.int x) = .int x ∧ fits .boolean (.int x) = true := by
        rcases h.1 with rfl | rfl
        · exact ⟨by decide, by decide⟩
        · exact ⟨by decide, by decide⟩
      refine va_put (D := D) (cl := vwCl) (tys := []) (ty := .boolean) hx hb hts hin ty0 hty hnm hown hK.cl hP (hD w) hS k (mx_cc_at hlay) hq b hkN (hts _ hlink) (fun _ h9 => by rw [hown2] at h9; exact h9) e3.1 e3.2 hz.1 hz.2 hlen hdg (fun H1 locs1 hP1 hD1 hS1 => ?_)
      exact hKK _ _ _ h.2 H1 locs1 ls hL (hset x ▸ hP1) hS1
  | arraylength =>
    have e1 : len = 1 := by simpa [mx_okI] using hI
    subst e1
    obtain ⟨k, r, rfl, h⟩ := mx_pR_x h
    obtain ⟨n, ho, h⟩ := mx_wO_x h
    obtain ⟨q, hq, hn⟩ := Option.map_eq_some_iff.mp ho
    have hlay := mx_arr_x hq
    obtain ⟨kd, n', rs⟩ := q
    have hn : n' = n := hn
    subst hn
    refine va_alen (D := D) (cl := vwCl) (tys := [(cA k, mx_kty kd)]) hx hb (hK.va hlay) hP k 0 (mx_cc_at hlay) rfl (v := nI n') ?_ hdg (hKK _ _ _ h H locs ls hL hP hS)
    show Int32.ofNat (mx_av ad w k kd n' rs).1 = nI n'
    unfold mx_av
    split <;> rfl
  | iaload =>
    have e1 : len = 1 := by simpa [mx_okI] using hI
    subst e1
    obtain ⟨i, r, rfl, h⟩ := mx_pI_x h
    obtain ⟨k, r, rfl, h⟩ := mx_pR_x h
    obtain ⟨n, rs, ho, hin, h⟩ := mx_wA_x h
    have hlay := mx_arr_x ho
    exact va_iald (D := D) (cl := vwCl) hx hb (hK.va hlay) hP k 0 (mx_cc_at hlay) rfl hin hdg (hKK _ _ _ h H locs ls hL hP hS)
  | baload =>
    have e1 : len = 1 := by simpa [mx_okI] using hI
    subst e1
    obtain ⟨i, r, rfl, h⟩ := mx_pI_x h
    obtain ⟨k, r, rfl, h⟩ := mx_pR_x h
    obtain ⟨n, rs, ho, hin, h⟩ := mx_wA_x h
    have hlay := mx_arr_x ho
    exact va_zald (D := D) (cl := vwCl) hx hb (hK.va hlay) hP k 0 (mx_cc_at hlay) rfl hin hdg (hKK _ _ _ h H locs ls hL hP hS)
  | laload =>
    have e1 : len = 1 := by simpa [mx_okI] using hI
    subst e1
    obtain ⟨i, r, rfl, h⟩ := mx_pI_x h
    obtain ⟨k, r, rfl, h⟩ := mx_pR_x h
    obtain ⟨n, rs, ho, hin, h⟩ := mx_wA_x h
    have hlay := mx_arr_x ho
    exact va_lald (D := D) (cl := vwCl) hx hb (hK.va hlay) hP k 0 (mx_cc_at hlay) rfl hin hdg (hKK _ _ _ h H locs ls hL hP hS)
  | daload =>
    have e1 : len = 1 := by simpa [mx_okI] using hI
    subst e1
    obtain ⟨i, r, rfl, h⟩ := mx_pI_x h
    obtain ⟨k, r, rfl, h⟩ := mx_pR_x h
    obtain ⟨n, rs, ho, hin, h⟩ := mx_wA_x h
    have hlay := mx_arr_x ho
    exact va_dald (D := D) (cl := vwCl) hx hb (hK.va hlay) hP k 0 (mx_cc_at hlay) rfl hin hdg (hKK _ _ _ h H locs ls hL hP hS)
  | aaload =>
    have e1 : len = 1 := by simpa [mx_okI] using hI
    subst e1
    obtain ⟨i, r, rfl, h⟩ := mx_pI_x h
    obtain ⟨k, r, rfl, h⟩ := mx_pR_x h
    obtain ⟨kd, n, rs, ho, hkd, hin, h⟩ := mx_wR_x h
    obtain ⟨k', hrs, h⟩ := mx_wO_x h
    have hlay := mx_arr_x ho
    have hP0 := hP k _ (mx_cc_at hlay)
    have hav : mx_av ad w k kd n rs = (n, .inr (.inr (.inr (.inr fun i => (rs[i]?).map ad)))) := by
      match kd, hkd with
      | _ + 4, _ => rfl
    have hty : (mx_kty kd).isReference = true := by
      match kd, hkd with
      | 4, _ => rfl
      | _ + 5, _ => rfl
    have hcell : H[ad k]? = some (vp_cell (cA k) (n, .inr (.inr (.inr (.inr fun i => (rs[i]?).map ad))))) := by
      have h3 : H[ad k]? = some (vp_cell (cA k) (mx_av ad w k kd n rs)) := hP0
      rw [hav] at h3
      exact h3
    have hlt : i.toNatClampNeg < n := Nat.not_le.mp fun q => hin (Or.inr q)
    refine W.aald (v := .ref (ad k')) (ty := mx_kty kd) hx hb hcell (((hK.va hlay).2 0 _ rfl).1 n (fun j => va_rf ((rs[j]?).map ad))) hty (fun q => by cases q) (by show ¬ (i < 0 ∨ (arrV _ _ _).slots.size ≤ _); rw [arrV_size]; exact hin) (by show (arrV _ _ _).slots[_]? = _; rw [arrV_read _ _ hlt]; dsimp only; rw [hrs]; rfl) rfl rfl hdg (hKK _ _ _ h H locs ls hL hP hS)
  | iastore =>
    have e1 : len = 1 := by simpa [mx_okI] using hI
    subst e1
    obtain ⟨x, r, rfl, h⟩ := mx_pI_x h
    obtain ⟨i, r, rfl, h⟩ := mx_pI_x h
    obtain ⟨k, r, rfl, h⟩ := mx_pR_x h
    obtain ⟨n, rs, ho, hin, h⟩ := mx_wA_x h
    have hlay := mx_arr_x ho
    refine va_iast (D := D) (cl := vwCl) hx hb (hK.va hlay) hP (hD w) hS k 0 (mx_cc_at hlay) rfl hin hdg (fun H1 locs1 hP1 hD1 hS1 => ?_)
    refine hKK _ _ _ h H1 locs1 ls hL ?_ hS1
    rw [← mx_cc_set (w := w) hlay rfl (fun i c hne => mx_cell_sA i c hne)]
    simp only [mx_cell, mx_av, mx_A_sA]
    exact hP1
  | lastore =>
    have e1 : len = 1 := by simpa [mx_okI] using hI
    subst e1
    obtain ⟨x, r, rfl, h⟩ := mx_pL_x h
    obtain ⟨i, r, rfl, h⟩ := mx_pI_x h
    obtain ⟨k, r, rfl, h⟩ := mx_pR_x h
    obtain ⟨n, rs, ho, hin, h⟩ := mx_wA_x h
    have hlay := mx_arr_x ho
    refine va_last (D := D) (cl := vwCl) hx hb (hK.va hlay) hP (hD w) hS k 0 (mx_cc_at hlay) rfl hin hdg (fun H1 locs1 hP1 hD1 hS1 => ?_)
    refine hKK _ _ _ h H1 locs1 ls hL ?_ hS1
    rw [← mx_cc_set (w := w) hlay rfl (fun i c hne => mx_cell_sL i c hne)]
    simp only [mx_cell, mx_av, mx_L_sL]
    exact hP1
  | dastore =>
    have e1 : len = 1 := by simpa [mx_okI] using hI
    subst e1
    obtain ⟨x, r, rfl, h⟩ := mx_pD_x h
    obtain ⟨i, r, rfl, h⟩ := mx_pI_x h
    obtain ⟨k, r, rfl, h⟩ := mx_pR_x h
    obtain ⟨n, rs, ho, hin, h⟩ := mx_wA_x h
    have hlay := mx_arr_x ho
    refine va_dast (D := D) (cl := vwCl) hx hb (hK.va hlay) hP (hD w) hS k 0 (mx_cc_at hlay) rfl hin hdg (fun H1 locs1 hP1 hD1 hS1 => ?_)
    refine hKK _ _ _ h H1 locs1 ls hL ?_ hS1
    rw [← mx_cc_set (w := w) hlay rfl (fun i c hne => mx_cell_sD i c hne)]
    simp only [mx_cell, mx_av, mx_D_sD]
    exact hP1
  | bastore =>
    have e1 : len = 1 := by simpa [mx_okI] using hI
    subst e1
    obtain ⟨x, r, rfl, h⟩ := mx_pI_x h
    obtain ⟨i, r, rfl, h⟩ := mx_pI_x h
    obtain ⟨k, r, rfl, h⟩ := mx_pR_x h
    obtain ⟨n, rs, ho, hin, hx01, h⟩ := mx_wA_x h
    have hlay := mx_arr_x ho
    have hz : vp_nar .boolean x = x := by
      rcases hx01 with rfl | rfl <;> decide
    refine va_zast (D := D) (cl := vwCl) hx hb (hK.va hlay) hP (hD w) hS k 0 (mx_cc_at hlay) rfl hin hdg (fun H1 locs1 hP1 hD1 hS1 => ?_)
    refine hKK _ _ _ h H1 locs1 ls hL ?_ hS1
    rw [hz] at hP1
    rw [← mx_cc_set (w := w) hlay rfl (fun i c hne => mx_cell_sA i c hne)]
    simp only [mx_cell, mx_av, mx_A_sA]
    exact hP1
  | invokevirtual i =>
    obtain ⟨e1, e2⟩ := Bool.and_eq_true _ _ ▸ hI
    have e1 : len = 3 := by simpa using e1
    subst e1
    match dn, h, e2 with
    | 0, h, e2 =>
      have h : mx_popn st b fun as rest => mx_rcv lay 0 f as ∧ Ga a as w fun v w' => K lo (mx_ov v rest) w' := h
      obtain ⟨hb1, hr4, hrc, hg⟩ := h
      obtain ⟨e2, e3⟩ := (Bool.and_eq_true _ _).mp e2
      have e2 := of_decide_eq_true e2
      cases hm : mt a with
      | none => rw [hm] at e3; cases e3
      | some mm =>
        rw [hm] at e3
        simp only [Bool.and_eq_true, beq_iff_eq, decide_eq_true_eq] at e3
        obtain ⟨⟨g1, g2⟩, g3⟩ := e3
        have hst : st = ((st.take b).reverse).reverse ++ st.drop b := by rw [List.reverse_reverse, List.take_append_drop]
        have hlen : ((st.take b).reverse).length = b := by simp; omega
        have hrc2 : ∃ k asr, (st.take b).reverse = .ref k :: asr ∧ mx_isO lay k f = true := by
          generalize (st.take b).reverse = z at hrc
          match z, hrc with
          | .ref k :: asr, hrc => exact ⟨k, asr, rfl, hrc⟩
        obtain ⟨k, asr, has, hrc⟩ := hrc2
        rw [hst]
        refine mx_call_ok X0 hm (List.mem_of_getElem? e2) hg hL hP hS hr4 (Or.inr ⟨g1, f, k, asr, has, hrc, g2, by rw [hlen]; exact g3, hdg⟩) (fun v w' hq => hKK _ _ _ hq)
    | 1, h, e2 => exact h.elim
    | 2, h, e2 => exact h.elim
    | 3, h, e2 => exact h.elim
    | _ + 4, h, e2 => exact h.elim
  | invokestatic i =>
    obtain ⟨e1, e2⟩ := Bool.and_eq_true _ _ ▸ hI
    have e1 : len = 3 := by simpa using e1
    subst e1
    match dn, h, e2 with
    | 0, h, e2 => exact h.elim
    | 1, h, e2 =>
      have h : mx_popn st b fun as rest => Ga a as w fun v w' => K lo (mx_ov v rest) w' := h
      obtain ⟨hb1, hr4, hg⟩ := h
      obtain ⟨e2, e3⟩ := (Bool.and_eq_true _ _).mp e2
      have e2 := of_decide_eq_true e2
      cases hm : mt a with
      | none => rw [hm] at e3; cases e3
      | some mm =>
        rw [hm] at e3
        simp only [Bool.and_eq_true, beq_iff_eq, decide_eq_true_eq] at e3
        obtain ⟨g1, g3⟩ := e3
        have hst : st = ((st.take b).reverse).reverse ++ st.drop b := by rw [List.reverse_reverse, List.take_append_drop]
        have hlen : ((st.take b).reverse).length = b := by simp; omega
        rw [hst]
        exact mx_call_ok X0 hm (List.mem_of_getElem? e2) hg hL hP hS hr4 (Or.inl ⟨g1, by rw [hlen]; exact g3, hdg⟩) (fun v w' hq => hKK _ _ _ hq)
    | 2, h, e2 =>
      obtain ⟨n, r, rfl, h⟩ := mx_pI_x h
      obtain ⟨dp, r, rfl, h⟩ := mx_pI_x h
      obtain ⟨k1, r, rfl, h⟩ := mx_pR_x h
      obtain ⟨sp, r, rfl, h⟩ := mx_pI_x h
      obtain ⟨k0, r, rfl, h⟩ := mx_pR_x h
      obtain ⟨n0, rs0, ho0, h⟩ := mx_wA_x h
      obtain ⟨n1, rs1, ho1, h1, h2, h3, h4, h5, h6, h⟩ := mx_wA_x h
      have hl0 := mx_arr_x ho0
      have hl1 := mx_arr_x ho1
      have hKK2 : va_K D vwCl [(cA k0, mx_kty 0), (cA k1, mx_kty 0)] s := ((hK.va hl0).app (hK.va hl1))
      have hnw : nativeFrameWords "java/lang/System" "arraycopy" 5 = 7 := by decide
      have hc8 := mx_cats8 (ad := ad) h6
      have hlo := mx_rm_lo d kq.2.2.1 kq.2.2.2
      refine va_copyi (D := D) (cl := vwCl) hx hb (hml.trans hL.1.symm) hown (hts _ (hy.2.2.1 _ (List.mem_of_getElem? (of_decide_eq_true e2)) rfl)) (hts _ hy.2.2.2.2.2.2.2.2.2.2.1.1) (hts _ hy.2.2.2.2.2.2.2.2.2.2.1.2.1) (hts _ hy.2.2.2.2.2.2.2.2.2.2.1.2.2) hKK2 hP (hD w) hS k0 k1 0 1 (mx_cc_at hl0) (mx_cc_at hl1) rfl rfl (by decide) h1 h2 h3 h4 h5 (fun i _ => rfl) (by have := mx_rm_fr d kq.2.2.1 kq.2.2.2; omega) (by rw [hnw]; omega) hdg (fun H1 locs1 hP1 hD1 hS1 => ?_)
      refine hKK _ _ _ h H1 locs1 ls hL ?_ hS1
      rw [← mx_cc_set (w := w) hl1 rfl (fun i c hne => mx_cell_sA i c hne)]
      simp only [mx_cell, mx_av, mx_A_sA]
      exact hP1
    | 3, h, e2 => exact h.elim
    | 4, h, e2 => exact h.elim
    | 5, h, e2 => exact h.elim
    | 6, h, e2 =>
      obtain ⟨y, r, rfl, h⟩ := mx_pI_x h
      obtain ⟨x, r, rfl, h6, h⟩ := mx_pI_x h
      have hc8 := mx_cats8 (ad := ad) h6
      have hlo := mx_rm_lo d kq.2.2.1 kq.2.2.2
      exact va_mmax hx hb (hml.trans hL.1.symm) hown (hts _ (hy.2.2.2.2.1 _ (List.mem_of_getElem? (of_decide_eq_true e2)) rfl)) (hts _ hy.2.2.2.2.2.2.1.1) (hts _ hy.2.2.2.2.2.2.1.2.2.1) (hts _ hy.2.2.2.2.2.2.1.2.2.2.1) (by have := mx_rm_fr d kq.2.2.1 kq.2.2.2; omega) (by omega) hstr.1 hstr.2 hdg (hKK _ _ _ h H locs ls hL hP hS)
    | 7, h, e2 =>
      obtain ⟨y, r, rfl, h⟩ := mx_pI_x h
      obtain ⟨x, r, rfl, h6, h⟩ := mx_pI_x h
      have hc8 := mx_cats8 (ad := ad) h6
      have hlo := mx_rm_lo d kq.2.2.1 kq.2.2.2
      exact va_mmin hx hb (hml.trans hL.1.symm) hown (hts _ (hy.2.2.2.2.2.1 _ (List.mem_of_getElem? (of_decide_eq_true e2)) rfl)) (hts _ hy.2.2.2.2.2.2.1.2.1) (hts _ hy.2.2.2.2.2.2.1.2.2.1) (hts _ hy.2.2.2.2.2.2.1.2.2.2.2) (by have := mx_rm_fr d kq.2.2.1 kq.2.2.2; omega) (by omega) hstr.1 hstr.2 hdg (hKK _ _ _ h H locs ls hL hP hS)
    | 8, h, e2 =>
      obtain ⟨y, r, rfl, h⟩ := mx_pL_x h
      obtain ⟨x, r, rfl, h6, h⟩ := mx_pL_x h
      have hc8 := mx_cats8 (ad := ad) h6
      have hlo := mx_rm_lo d kq.2.2.1 kq.2.2.2
      exact va_mmin_long hx hb (hml.trans hL.1.symm) hown (hts _ (hy.2.2.2.1 _ (List.mem_of_getElem? (of_decide_eq_true e2)) rfl)) (hts _ hy.2.2.2.2.2.2.2.2.2.2.2.1.1) (hts _ hy.2.2.2.2.2.2.1.2.2.1) (hts _ hy.2.2.2.2.2.2.2.2.2.2.2.1.2) (by have := mx_rm_fr d kq.2.2.1 kq.2.2.2; omega) (by omega) hstr.1 hstr.2 hdg (hKK _ _ _ h H locs ls hL hP hS)
    | _ + 9, h, e2 => exact h.elim
  | ireturn =>
    obtain ⟨e1, e2⟩ := Bool.and_eq_true _ _ ▸ hI
    have e1 : len = 1 := by simpa using e1
    subst e1
    obtain ⟨x, r, rfl, h⟩ := mx_pI_x h
    obtain ⟨rfl, h⟩ := mx_nil_x h
    match dn, h, e2 with
    | 0, h, e2 =>
      exact W.widen hstr.1 hstr.2 (W.iret hx hb (hret.trans (of_decide_eq_true e2)) (fun t ht hW => ⟨⟨some (.int x), w, rfl, h, by rw [ht]; exact hP⟩, hS.F ht⟩) hS.2.2 hdg)
    | _ + 1, h, e2 =>
      have hz : narrow .boolean (.int x) = .int x := by
        rcases h.1 with rfl | rfl <;> decide
      exact W.widen hstr.1 hstr.2 (W.zret hx hb (hret.trans (of_decide_eq_true e2)) hz (fun t ht hW => ⟨⟨some (.int x), w, rfl, h.2, by rw [ht]; exact hP⟩, hS.F ht⟩) hS.2.2 hdg)
  | lreturn =>
    simp only [mx_okI, Bool.and_eq_true, decide_eq_true_eq, beq_iff_eq] at hI
    obtain ⟨e1, e2⟩ := hI
    subst e1
    obtain ⟨x, r, rfl, h⟩ := mx_pL_x h
    obtain ⟨rfl, h⟩ := mx_nil_x h
    exact W.widen hstr.1 hstr.2 (W.lret hx hb (hret.trans e2) (fun t ht hW => ⟨⟨some (.long x), w, rfl, h, by rw [ht]; exact hP⟩, hS.F ht⟩) hS.2.2 hdg)
  | areturn =>
    simp only [mx_okI, Bool.and_eq_true, decide_eq_true_eq, beq_iff_eq] at hI
    obtain ⟨e1, e2⟩ := hI
    subst e1
    obtain ⟨x, r, rfl, h⟩ := mx_pR_x h
    obtain ⟨rfl, h⟩ := mx_nil_x h
    cases ret with
    | none => cases e2
    | some rt =>
      have ht : ∃ t, rt = .array t := by
        cases rt <;> first | exact ⟨_, rfl⟩ | cases e2
      exact W.widen hstr.1 hstr.2 (W.aret hx hb hret (Or.inr ht) (Or.inr ⟨_, rfl⟩) (fun t ht hW => ⟨⟨some (.ref x), w, rfl, h, by rw [ht]; exact hP⟩, hS.F ht⟩) hS.2.2 hdg)
  | dreturn =>
    simp only [mx_okI, Bool.and_eq_true, decide_eq_true_eq, beq_iff_eq] at hI
    obtain ⟨e1, e2⟩ := hI
    subst e1
    obtain ⟨x, r, rfl, h⟩ := mx_pD_x h
    obtain ⟨rfl, h⟩ := mx_nil_x h
    exact W.widen hstr.1 hstr.2 (W.dret hx hb (hret.trans e2) (fun t ht hW => ⟨⟨some (.double x), w, rfl, h, by rw [ht]; exact hP⟩, hS.F ht⟩) hS.2.2 hdg)
  | return_ =>
    simp only [mx_okI, Bool.and_eq_true, decide_eq_true_eq, beq_iff_eq] at hI
    obtain ⟨e1, e2⟩ := hI
    subst e1
    obtain ⟨rfl, h⟩ := mx_nil_x h
    exact W.widen hstr.1 hstr.2 (W.vret hx hb (hret.trans e2) (fun t ht hW => ⟨⟨none, w, rfl, h, by rw [ht]; exact hP⟩, hS.F ht⟩) hS.2.2 hdg)
  | _ => exact h.elim
end MXV
