/-! a method that makes one row of ints: two runs, joined -/
def ad9 (ad : Nat → Nat) (q k : Nat) : Nat := if k = 69 then q else ad k
def rf69 (c : (Nat × List (Option Nat)) ⊕ (Nat × Nat × List Nat)) : Bool := match c with
  | .inl o => o.2.all fun x => match x with
    | some k => Nat.blt k 69
    | none => true
  | .inr q => q.2.2.all fun k => Nat.blt k 69
theorem rf_lX : mx_lX.all rf69 = true := by decide +kernel
theorem ad9_n {ad : Nat → Nat} {q k : Nat} (h : k ≠ 69) : ad9 ad q k = ad k := if_neg h
theorem cell_9 {ad : Nat → Nat} {cA : Nat → ClassId} {q cq k : Nat} {w : mx_Wd} {c : (Nat × List (Option Nat)) ⊕ (Nat × Nat × List Nat)} (hk : k ≠ 69) (hc : rf69 c = true) : mx_cell (ad9 ad q) (ad9 cA cq) w k c = mx_cell ad cA w k c := by
  cases c with
  | inl o =>
    have hc : o.2.all _ = true := hc
    show (Sum.inr (o.1, mx_fs (ad9 ad q) w k o.2) : va_E) = Sum.inr (o.1, mx_fs ad w k o.2)
    congr 2
    apply List.ext_getElem?
    intro i
    simp only [mx_fs, List.getElem?_mapIdx]
    cases e : o.2[i]? with
    | none => rfl
    | some x =>
      have hx := List.all_eq_true.mp hc x (List.mem_of_getElem? e)
      cases x with
      | none => rfl
      | some k' =>
        have hx : k' < 69 := Nat.blt_eq.mp hx
        show some (Value.ref (ad9 ad q k')) = some (Value.ref (ad k'))
        rw [ad9_n (show k' ≠ 69 by omega)]
  | inr z =>
    obtain ⟨kd, n, rs⟩ := z
    have hc : rs.all _ = true := hc
    show (Sum.inl (ad9 cA cq k, mx_av (ad9 ad q) w k kd n rs) : va_E) = Sum.inl (cA k, mx_av ad w k kd n rs)
    rw [ad9_n hk]
    congr 2
    have hr : (fun i : Nat => (rs[i]?).map (ad9 ad q)) = fun i : Nat => (rs[i]?).map ad := by
      funext i
      cases e : rs[i]? with
      | none => rfl
      | some k' =>
        have hx : k' < 69 := Nat.blt_eq.mp (List.all_eq_true.mp hc k' (List.mem_of_getElem? e))
        show some (ad9 ad q k') = some (ad k')
        rw [ad9_n (show k' ≠ 69 by omega)]
    unfold mx_av
    rw [hr]
/-- the longer layout's cells -/
theorem lE_ccg {lay : mx_Lay} (hlen : lay.length = 69) (hrf : lay.all rf69 = true) {ad : Nat → Nat} {cA : Nat → ClassId} {q cq n : Nat} {w : mx_Wd} : mx_cc (ad9 ad q) (ad9 cA cq) (lay ++ [.inr (0, n, [])]) w = mx_cc ad cA lay w ++ [(q, .inl (cq, (n, .inl (mx_A w 69))))] := by
  have h1 : lay.mapIdx (fun k c => (ad9 ad q k, mx_cell (ad9 ad q) (ad9 cA cq) w k c)) = mx_cc ad cA lay w := by
    apply List.ext_getElem?
    intro k
    simp only [mx_cc, List.getElem?_mapIdx]
    cases e : lay[k]? with
    | none => rfl
    | some c =>
      have hk : k < 69 := by
        have := (List.getElem?_eq_some_iff.mp e).1
        omega
      have hc := List.all_eq_true.mp hrf c (List.mem_of_getElem? e)
      show some (ad9 ad q k, mx_cell (ad9 ad q) (ad9 cA cq) w k c) = some (ad k, mx_cell ad cA w k c)
      rw [cell_9 (show k ≠ 69 by omega) hc, ad9_n (show k ≠ 69 by omega)]
  have e1 : ad9 ad q 69 = q := if_pos rfl
  have e2 : ad9 cA cq 69 = cq := if_pos rfl
  have h2 : ∀ L, L = 69 → ([.inr (0, n, [])] : mx_Lay).mapIdx (fun k c => (ad9 ad q (k + L), mx_cell (ad9 ad q) (ad9 cA cq) w (k + L) c)) = [(q, .inl (cq, (n, .inl (mx_A w 69))))] := by
    intro L hL
    subst hL
    rw [List.mapIdx_cons, List.mapIdx_nil]
    show [(ad9 ad q 69, (Sum.inl (ad9 cA cq 69, (n, Sum.inl (mx_A w 69))) : va_E))] = _
    rw [e1, e2]
  show List.mapIdx (fun k c => (ad9 ad q k, mx_cell (ad9 ad q) (ad9 cA cq) w k c)) (lay ++ [.inr (0, n, [])]) = _
  rw [List.mapIdx_append, h1, h2 _ hlen]
theorem lE_cc {ad : Nat → Nat} {cA : Nat → ClassId} {q cq n : Nat} {w : mx_Wd} : mx_cc (ad9 ad q) (ad9 cA cq) (lE n) w = mx_cc ad cA mx_lX w ++ [(q, .inl (cq, (n, .inl (mx_A w 69))))] := lE_ccg lX_len rf_lX
theorem lX_row {ad : Nat → Nat} {cA : Nat → ClassId} {w : mx_Wd} {f : Nat → Int32} : mx_cc ad cA mx_lX (mx_sA w 69 f) = mx_cc ad cA mx_lX w := by
  apply List.ext_getElem?
  intro k
  simp only [mx_cc, List.getElem?_mapIdx]
  cases e : mx_lX[k]? with
  | none => rfl
  | some c =>
    have hk : k < 69 := (List.getElem?_eq_some_iff.mp e).1
    show some (ad k, mx_cell ad cA (mx_sA w 69 f) k c) = some (ad k, mx_cell ad cA w k c)
    rw [← mx_cell_sA k c (show k ≠ 69 by omega)]
theorem cc_len {ad : Nat → Nat} {cA : Nat → ClassId} {w : mx_Wd} : (mx_cc ad cA mx_lX w).length = 69 := by
  unfold mx_cc
  rw [List.length_mapIdx, lX_len]
theorem lE_K {D : va_G} {cA : Nat → ClassId} {cq n : Nat} {s : State} (h : mx_K D cA mx_lX s) (hq : va_K D vwCl [(cq, .int)] s) : mx_K D (ad9 cA cq) (lE n) s := by
  refine ⟨h.1, fun k kd n' rs hk => ?_⟩
  by_cases c : k = 69
  · subst c
    cases hk
    exact hq.2 0 _ rfl
  · have hk2 : mx_lX[k]? = some (.inr (kd, n', rs)) := by
      unfold lE at hk
      rcases Nat.lt_or_ge k 69 with z | z
      · rwa [List.getElem?_append_left (by rw [lX_len]; exact z)] at hk
      · rw [List.getElem?_append_right (by rw [lX_len]; exact z), lX_len] at hk
        have : k - 69 < 1 := (List.getElem?_eq_some_iff.mp hk).1
        omega
    rw [ad9_n c]
    exact h.2 k kd n' rs hk2
def no69 (l : mx_Lo) : Bool := l.all fun o => match o with
  | some (.ref k) => Nat.blt k 69
  | _ => true
theorem toA_9 {ad : Nat → Nat} {q : Nat} : ∀ (l : mx_Lo) (k : Nat), no69 l = true → mx_toA (ad9 ad q) k l = mx_toA ad k l
  | [], _, _ => rfl
  | none :: r, k, h => by
    show mx_toA (ad9 ad q) (k + 1) r = mx_toA ad (k + 1) r
    exact toA_9 r (k + 1) (by unfold no69 at h ⊢; rw [List.all_cons, Bool.and_eq_true] at h; exact h.2)
  | some v :: r, k, h => by
    unfold no69 at h
    rw [List.all_cons, Bool.and_eq_true] at h
    show (k, mx_cv (ad9 ad q) v) :: mx_toA (ad9 ad q) (k + 1) r = (k, mx_cv ad v) :: mx_toA ad (k + 1) r
    rw [toA_9 r (k + 1) h.2]
    congr 2
    cases v with
    | ref k' =>
      have hk' : k' < 69 := Nat.blt_eq.mp h.1
      show Value.ref (ad9 ad q k') = Value.ref (ad k')
      rw [ad9_n (Nat.ne_of_lt hk')]
    | _ => rfl
theorem W_imp {p : Program} {l : Launch} {e : Env} {R : Room} {s : State} {m : MethodId} {args : Array Value} {below : List Frame} {meth : Method} {c : Code} {H : Heap} {locs : List Loc} {cells slots : Nat} {Q Q' : State → Prop} {g : JFrame} (h : ∀ t, Q t → Q' t) (k : W p l e R s m args below meth c H locs cells slots Q g) : W p l e R s m args below meth c H locs cells slots Q' g := fun T hT X => by
  obtain ⟨t, a, b⟩ := k T hT X
  exact ⟨t, a, h t b⟩
theorem MQ_imp {below : List Frame} {Qc Qc' : Array Value → State → Outcome → State → Prop} {a : Array Value} {s : State} {mc ms : Nat} {free : Addr → Prop} (h : ∀ o t, s.WarmedH t.vm → Qc a s o t → Qc' a s o t) : ∀ t, MQ below Qc a s mc ms free t → MQ below Qc' a s mc ms free t := fun t ⟨o, h1, h2, h3, L, h4, h5⟩ => ⟨o, h1, h2, h o t h4.2.1 h3, L, h4, h5⟩
theorem w_arr : Jvm.Cond.arrayClass .int ∈ mx_big := mx_bg 80 (by decide +kernel) (by decide +kernel)
section LMET
variable {p : Program} {l : Launch} {e : Env} {d : Nat} {s : State} {m : MethodId} {args : Array Value} {below : List Frame} {meth : Method} {c : Code}
variable {cc : ByteArray} {own : String} {nL : Nat} {ret : Option FieldType} {ad : Nat → Nat} {cA : Nat → ClassId} {D : va_G} {wA : mx_Wd}
/-- newarray, and on in the longer layout -/
theorem lm_new {n pc : Nat} {lo : mx_Lo} {w : mx_Wd} {bs : List (Nat × List mx_E)} {Q2 : mx_Po} {Qc : Array Value → State → Outcome → State → Prop} (X : mx_Fix mx_TT mx_mt mx_big mx_lX (0, 0, 1, n) p l d s m args meth c cc own nL ret ad cA D (va_A (mx_cc ad cA mx_lX wA) s.heap.size) (mx_sem mx_mt mx_lX d)) (hbs : (bs.all fun q => mx_okB mx_TT mx_mt own cc nL ret q.1 q.2) = true) (hn : n ≤ 1000) (hdg : decode cc pc = .ok (.newarray .int, 2)) (h69 : no69 lo = true)
    (h : mx_wj (lE n) d bs Q2 (pc + 2) lo [.ref 69] (mx_sA w 69 fun _ => 0))
    (hpost : ∀ (q cq : Nat) (o : Outcome) (t : State), s.heap.size ≤ q → va_K D vwCl [(cq, .int)] t → mx_Qc (ad9 ad q) (ad9 cA cq) D (lE n) Q2 (va_A (mx_cc ad cA mx_lX wA) s.heap.size) args s o t → Qc args s o t) :
    ∀ (H : Heap) (locs : List Loc) (ls : Array Slot), mx_LR ad nL lo ls → va_P D vwCl (mx_cc ad cA mx_lX w) H → va_S (va_A (mx_cc ad cA mx_lX wA) s.heap.size) s.heap H locs →
      W p l e (mx_rmc (d + 1) 1 n) s m args below meth c H locs 0 0 (MQ below Qc args s 1 n (va_A (mx_cc ad cA mx_lX wA) s.heap.size)) (F0 m pc ls [.int (nI n)]) := by
  intro H locs ls hL hP hS
  obtain ⟨hy, hk, hF, hret, hlk, hK, hD, hStr, hA, hGa⟩ := X
  obtain ⟨hx, hb, hml, hown, hts⟩ := id hF
  refine va_newa (atype := .int) (ty := .int) (n := nI n) (N' := n) (a0 := (n, .inl fun _ => 0)) hx hb (hts _ w_arr) rfl hK.cl hP (hD w) hS hA (fun cA => rfl) (nI_nn (by omega)) (nI_clamp (by omega)) (by show n * 4 ≤ 536870912; omega) (Nat.le_refl 1) (by show 0 + n ≤ n; omega) hdg (fun q cq H1 hK1 hP1 hD1 hS1 => ?_)
  have hq : s.heap.size ≤ q := by
    have h69 : (mx_cc ad cA mx_lX w ++ [(q, (Sum.inl (cq, (n, Sum.inl fun _ => (0 : Int32))) : va_E))])[69]? = some (q, Sum.inl (cq, (n, Sum.inl fun _ => 0))) := by
      rw [List.getElem?_append_right (by rw [cc_len]; exact Nat.le_refl _), cc_len]
      rfl
    rcases hD1.2 69 _ h69 with ⟨k, e', hk'⟩ | hk'
    · exfalso
      have hk9 : k < 69 := by
        have := (List.getElem?_eq_some_iff.mp hk').1
        rwa [cc_len] at this
      simp only [mx_cc, List.getElem?_mapIdx, Option.map_eq_some_iff] at hk'
      obtain ⟨c', hc', e2⟩ := hk'
      have h2 : (mx_cc ad cA mx_lX w ++ [(q, (Sum.inl (cq, (n, Sum.inl fun _ => (0 : Int32))) : va_E))])[k]? = some (ad k, mx_cell ad cA w k c') := by
        rw [List.getElem?_append_left (by rw [cc_len]; exact hk9)]
        exact mx_cc_at hc'
      have := hD1.1 k 69 _ _ h2 h69 (by rw [Prod.mk.injEq] at e2; exact e2.1)
      omega
    · exact hk'
  have e0 : mx_A (mx_sA w 69 fun _ => (0 : Int32)) 69 = fun _ => 0 := mx_A_sA _ _ _
  have eP : mx_cc (ad9 ad q) (ad9 cA cq) (lE n) (mx_sA w 69 fun _ => 0) = mx_cc ad cA mx_lX w ++ [(q, .inl (cq, (n, .inl fun _ => 0)))] := by
    rw [lE_cc, e0, lX_row]
  have X2 : mx_Fix mx_TT mx_mt mx_big (lE n) (0 + 1, 0 + n, 1, n) p l d s m args meth c cc own nL ret (ad9 ad q) (ad9 cA cq) D (va_A (mx_cc ad cA mx_lX wA) s.heap.size) (mx_sem mx_mt (lE n) d) :=
    ⟨hy, ⟨Nat.le_refl _, by show 0 + n ≤ n; omega⟩, hF, hret, hlk, lE_K hK hK1, fun w' => mx_cc_D (w := mx_sA w 69 fun _ => 0) (by rw [eP]; exact hD1), trivial, hA, mx_sem_ok hy l d⟩
  have hW := mx_wl_ok (e := e) (below := below) X2 hbs h H1 locs ls (by unfold mx_LR; rw [toA_9 lo 0 h69]; exact hL) (by rw [eP]; exact hP1) hS1
  have hW : W p l e (mx_rmc (d + 1) 1 n) s m args below meth c H1 locs (0 + 1) (0 + n) (MQ below (mx_Qc (ad9 ad q) (ad9 cA cq) D (lE n) Q2 (va_A (mx_cc ad cA mx_lX wA) s.heap.size)) args s 1 n (va_A (mx_cc ad cA mx_lX wA) s.heap.size)) (F0 m (pc + 2) ls [.ref q]) := hW
  exact W_imp (MQ_imp fun o t hw => hpost q cq o t hq (va_K.moved hw.alike hK1)) hW
end LMET
