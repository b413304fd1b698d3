/-! the law's body: one call a round on each side; what holds between the rounds (made by hand) -/
def lf_A (s : State) : Nat → Prop := fun q => s.heap.size ≤ q
/-- the script's long at the places 4 and 5 -/
def lf_t (xs : Nat → Int32) (n : Nat) : Int64 := ((xs (6 * n + 4)).toInt64 <<< ((32 : Int32).toInt64 &&& 63)) ||| ((xs (6 * n + 5)).toInt64 &&& 4294967295)
/-- an argument: 0: the long, else the script's int at this place of the call -/
def lf_v (xs : Nat → Int32) (n : Nat) : Nat → Value
  | 0 => .long (lf_t xs n)
  | j + 1 => .int (xs (6 * n + (j + 1)))
def lf_len : List Nat → Nat
  | [] => 0
  | 0 :: r => 20 + lf_len r
  | (_ + 1) :: r => 5 + lf_len r
def lf_okL (pc j : Nat) : Bool := decide (decode code pc = .ok (.aload_n 0, 1)) && (decide (decode code (pc + 1) = .ok (.iload_n 3, 1)) && (decide (decode code (pc + 2) = .ok (.iconst (j : Int), 1)) && (decide (decode code (pc + 3) = .ok (.iadd, 1)) && (decide (decode code (pc + 4) = .ok (.iaload, 1)) && (decide (Int32.ofInt (j : Int) = nI j) && decide (j < 6))))))
def lf_okT (pc : Nat) : Bool := lf_okL pc 4 && (decide (decode code (pc + 5) = .ok (.i2l, 1)) && (decide (decode code (pc + 6) = .ok (.bipush 32, 2)) && (decide (decode code (pc + 8) = .ok (.lshl, 1)) && (lf_okL (pc + 9) 5 && (decide (decode code (pc + 14) = .ok (.i2l, 1)) && (decide (decode code (pc + 15) = .ok (.ldc2_w 122, 3)) && (decide (decode code (pc + 18) = .ok (.land, 1)) && decide (decode code (pc + 19) = .ok (.lor, 1)))))))))
def lf_okA : Nat → List Nat → Bool
  | _, [] => true
  | pc, 0 :: r => lf_okT pc && lf_okA (pc + 20) r
  | pc, (j + 1) :: r => lf_okL pc (j + 1) && lf_okA (pc + 5) r
def lf_okK (id f n : Nat) : Bool := match mx_mt id with
  | some m => m.2.2.2.2.1 == false && decide ((vwCl[f]?).map (fun q => q.1) = some m.1.cls) && decide ((parseMethodDescriptor m.1.desc).map (fun d => d.parameters.length) = some n)
  | none => false
def lf_ok2 (pc : Nat) (js : List Nat) (iX iM : Nat) : Bool := decide (decode code pc = .ok (.aload_n 1, 1)) && (lf_okA (pc + 1) js && (decide (decode code (pc + 1 + lf_len js) = .ok (.invokevirtual iX, 3)) && (decide (decode code (pc + 1 + lf_len js + 3) = .ok (.aload_n 2, 1)) && (lf_okA (pc + 1 + lf_len js + 3 + 1) js && decide (decode code (pc + 1 + lf_len js + 3 + 1 + lf_len js) = .ok (.invokevirtual iM, 3))))))
def lf_end (pc : Nat) (js : List Nat) : Nat := pc + 1 + lf_len js + 3 + 1 + lf_len js + 3
def lf_okI (pc : Nat) (js : List Nat) (iX iM idX idM : Nat) (off : Int) : Bool := lf_ok2 pc js iX iM && (lf_okK idX 10 js.length && (lf_okK idM 11 js.length && (decide (decode code (lf_end pc js) = .ok (.if_icmp .eq off, 3)) && decide (((lf_end pc js : Nat) : Int) + off = ((1272 : Nat) : Int)))))
def lf_okJ (pc : Nat) (js : List Nat) (iX iM idX idM : Nat) (off : Int) : Bool := lf_ok2 pc js iX iM && (lf_okK idX 10 js.length && (lf_okK idM 11 js.length && (decide (decode code (lf_end pc js) = .ok (.lcmp, 1)) && (decide (decode code (lf_end pc js + 1) = .ok (.ifCond .eq off, 3)) && decide (((lf_end pc js + 1 : Nat) : Int) + off = ((1272 : Nat) : Int))))))
/-- what stands while the law runs -/
def lf_X (p : Program) (s : State) (m : MethodId) (c : Code) (b L : Nat) (xs : Nat → Int32) (D : va_G) (aX aM : Nat → Nat) (kX kM : Nat → ClassId) : Prop :=
  CallFix p m c code 4 s #[Value.ref b] mx_big "ConstrainedCoderLaw" ∧ va_X b L xs s s.heap ∧ b < s.heap.size ∧ L ≤ 3072 ∧ mx_K D kX mx_lX s ∧ mx_K D kM mx_lM s ∧ mx_Str aX (lf_A s) s s.heap ∧ mx_Str aM (lf_A s) s s.heap ∧ ∀ w w', va_D (lf_A s) (mx_cc aX kX mx_lX w ++ mx_cc aM kM mx_lM w')
/-- what holds at call n -/
def lf_N (s : State) (b : Nat) (D : va_G) (aX aM : Nat → Nat) (kX kM : Nat → ClassId) (n : Nat) (a : aS) (H : Heap) (locs : List Loc) (ls : Array Slot) : Prop :=
  vS a ∧ (∃ wX, RX wX a ∧ va_P D vwCl (mx_cc aX kX mx_lX wX) H) ∧ (∃ wM, RM wM a ∧ va_P D vwCl (mx_cc aM kM mx_lM wM) H) ∧ va_S (lf_A s) s.heap H locs ∧ lv_has ls 4 [(3, .int (nI (6 * n))), (2, .ref (aM 0)), (1, .ref (aX 0)), (0, .ref b)]
theorem lf_sep {A : Nat → Prop} {w1 w2 : va_W} (hD : va_D A (w1 ++ w2)) : ∀ (i j : Nat) (p q : Nat × va_E), w1[i]? = some p → w2[j]? = some q → p.1 ≠ q.1 := by
  intro i j p q hp hq e
  have hi := (List.getElem?_eq_some_iff.mp hp).1
  have := hD.1 i (w1.length + j) p q (by rw [List.getElem?_append_left hi]; exact hp) (by rw [List.getElem?_append_right (Nat.le_add_right _ _), Nat.add_sub_cancel_left]; exact hq) e
  omega
theorem lf_keep {D : va_G} {cl : List vw_C} {w1 w2 : va_W} {H H1 : Heap} (hs : ∀ (i j : Nat) (p q : Nat × va_E), w1[i]? = some p → w2[j]? = some q → p.1 ≠ q.1) (hP : va_P D cl w2 H) (hk : ∀ q : Nat, q < H.size → ¬ va_A w1 H.size q → H1[q]? = H[q]?) : va_P D cl w2 H1 :=
  hP.kept fun k q hq => hk q.1 (hP k q hq).lt fun h => by
    rcases h with ⟨i, e, h⟩ | h
    · exact hs i k (q.1, e) q h hq rfl
    · exact absurd (hP k q hq).lt (Nat.not_lt.mpr h)
section LF
variable {p : Program} {l : Launch} {e : Env} {R : Room} {s : State} {m : MethodId} {args : Array Value} {below : List Frame} {meth : Method} {c : Code} {H : Heap} {locs : List Loc} {cells slots : Nat} {Q : State → Prop}
variable {pc : Nat} {ls : Array Slot} {rest st0 : List Value} {ar : Array Value} {A0 A1 : Nat → Prop} {H0 : Heap} {free : Addr → Prop}
/-- behind a call of a contract, with what it left alone -/
theorem lf_callW {ad : Nat → Nat} {cA : Nat → ClassId} {D : va_G} {lay : mx_Lay} {Qa : mx_Po} (hr : va_Run p l e R s m args below meth c H locs cells slots 0 0 (F0 m pc ls st0) rest (mx_Qc ad cA D lay Qa A1 ar) free) (hS : va_S A0 H0 H locs) (hA : ∀ q, q < H.size → A1 q → A0 q) (hf : ∀ q, free q → A0 q)
    (kk : ∀ (v : Option Value) (w' : mx_Wd) (H1 : Heap) (locs1 : List Loc), Qa v w' → va_P D vwCl (mx_cc ad cA lay w') H1 → va_S A0 H0 H1 locs1 → (∀ q : Nat, q < H.size → ¬ A1 q → H1[q]? = H[q]?) → W p l e R s m args below meth c H1 locs1 cells slots Q (F0 m (pc + 3) ls ((v.map (mx_cv ad)).toList ++ rest))) : W p l e R s m args below meth c H locs cells slots Q (F0 m pc ls st0) := by
  intro T hT X
  obtain ⟨v, st₀, t, T', L, h0, X', hL, e1, e2, ⟨⟨v', w', hv, hp, hb⟩, hz, hk⟩, st⟩ := hr T hT X
  cases hv
  rw [h0] at hz hk
  obtain ⟨t2, a1, b1⟩ := kk v' w' T'.heap (locs ++ L) hp (by rw [e1]; exact hb)
    ⟨Nat.le_trans hS.1 (by rw [e1]; exact hz), fun q h1 h2 => by rw [e1, hk q (Nat.lt_of_lt_of_le h1 hS.1) (fun z => h2 (hA q (Nat.lt_of_lt_of_le h1 hS.1) z))]; exact hS.2.1 q h1 h2, fun q hq => by
      rcases List.mem_append.mp hq with h | h
      · exact hS.2.2 q h
      · exact hf _ (hL q h)⟩ (fun q h1 h2 => by rw [e1]; exact hk q h1 h2) T' rfl X'
  exact ⟨t2, st t2 a1, b1⟩
end LF
section LG
variable {p : Program} {l : Launch} {e : Env} {s : State} {m : MethodId} {below : List Frame} {meth : Method} {c : Code} {b L : Nat} {xs : Nat → Int32} {Q : State → Prop}
variable {D : va_G} {aX aM : Nat → Nat} {kX kM : Nat → ClassId} {n : Nat} {a : aS} {H : Heap} {locs : List Loc} {ls : Array Slot} {st : List Value}
theorem lf_ld (C : lf_X p s m c b L xs D aX aM kX kM) (h : lf_N s b D aX aM kX kM n a H locs ls) (hn : 6 * n + 6 ≤ L) {H' : Heap} {locs' : List Loc} (hS : va_S (lf_A s) s.heap H' locs') {pc j : Nat} (chk : lf_okL pc j = true)
    (kk : W p l e room_1 s m #[Value.ref b] below meth c H' locs' 600000 7302250 Q (F0 m (pc + 5) ls (.int (xs (6 * n + j)) :: st))) : W p l e room_1 s m #[Value.ref b] below meth c H' locs' 600000 7302250 Q (F0 m pc ls st) := by
  obtain ⟨⟨hx, hb, -, -, -⟩, hX, hbl, hL, -⟩ := C
  have hl := h.2.2.2.2
  simp only [lf_okL, Bool.and_eq_true, decide_eq_true_eq] at chk
  obtain ⟨h1, h2, h3, h4, h5, h6, h7⟩ := chk
  refine lv_aload_n hx hb h1 rfl (lv_at hl 3 rfl) ?_
  refine lv_iload_n hx hb h2 rfl (lv_at hl 0 rfl) ?_
  refine lv_iconst hx hb h3 h6 ?_
  refine lv_iadd hx hb h4 ?_
  rw [nI_add]
  refine va_sld (A := lf_A s) hx hb hX hbl (Nat.not_le.mpr hbl) hS (vp_in_nI (by omega) (by omega)) h5 ?_
  rw [nI_clamp (by omega)]
  exact kk
theorem lf_args (C : lf_X p s m c b L xs D aX aM kX kM) (h : lf_N s b D aX aM kX kM n a H locs ls) (hn : 6 * n + 6 ≤ L) {H' : Heap} {locs' : List Loc} (hS : va_S (lf_A s) s.heap H' locs') : ∀ (js : List Nat) (pc : Nat) (st : List Value), lf_okA pc js = true →
    W p l e room_1 s m #[Value.ref b] below meth c H' locs' 600000 7302250 Q (F0 m (pc + lf_len js) ls ((js.map (lf_v xs n)).reverse ++ st)) → W p l e room_1 s m #[Value.ref b] below meth c H' locs' 600000 7302250 Q (F0 m pc ls st) := by
  intro js
  induction js with
  | nil =>
    intro pc st _ kk
    have e1 : (([] : List Nat).map (lf_v xs n)).reverse ++ st = st := rfl
    have e2 : pc + lf_len [] = pc := Nat.add_zero pc
    rw [e1, e2] at kk
    exact kk
  | cons j r ih =>
    intro pc st chk kk
    cases j with
    | zero =>
      obtain ⟨⟨hx, hb, -, hown, hts⟩, -⟩ := id C
      simp only [lf_okA, lf_okT, Bool.and_eq_true, decide_eq_true_eq] at chk
      obtain ⟨⟨h1, h2, h3, h4, h5, h6, h7, h8, h9⟩, hr⟩ := chk
      refine lf_ld C h hn hS h1 ?_
      refine lv_i2l hx hb h2 rfl ?_
      refine lv_bipush (v := 32) hx hb h3 (by decide) ?_
      refine lv_lshl hx hb h4 rfl ?_
      refine lf_ld C h hn hS h5 ?_
      refine lv_i2l hx hb h6 rfl ?_
      refine lv_ldc2 (own := "ConstrainedCoderLaw") (v := 4294967295) hx hb hown (hts _ (mx_bg 1449 (by decide +kernel) (by decide +kernel))) h7 ?_
      refine lv_land hx hb h8 ?_
      refine lv_lor hx hb h9 ?_
      refine ih (pc + 20) _ hr ?_
      have e1 : ((0 :: r).map (lf_v xs n)).reverse ++ st = (r.map (lf_v xs n)).reverse ++ (.long (lf_t xs n) :: st) := by
        rw [List.map_cons, List.reverse_cons, List.append_assoc]
        rfl
      have e2 : pc + lf_len (0 :: r) = pc + 20 + lf_len r := by
        show pc + (20 + lf_len r) = _
        omega
      rw [e1, e2] at kk
      exact kk
    | succ j =>
      simp only [lf_okA, Bool.and_eq_true] at chk
      refine lf_ld C h hn hS chk.1 ?_
      refine ih (pc + 5) _ chk.2 ?_
      have e1 : (((j + 1) :: r).map (lf_v xs n)).reverse ++ st = (r.map (lf_v xs n)).reverse ++ (.int (xs (6 * n + (j + 1))) :: st) := by
        rw [List.map_cons, List.reverse_cons, List.append_assoc]
        rfl
      have e2 : pc + lf_len ((j + 1) :: r) = pc + 5 + lf_len r := by
        show pc + (5 + lf_len r) = _
        omega
      rw [e1, e2] at kk
      exact kk
theorem lf_cv {ad : Nat → Nat} : ∀ (js : List Nat), (js.map (lf_v xs n)).map (mx_cv ad) = js.map (lf_v xs n)
  | [] => rfl
  | 0 :: r => congrArg (List.cons _) (lf_cv r)
  | (_ + 1) :: r => congrArg (List.cons _) (lf_cv r)
/-- one side's call -/
theorem lf_call (F : CallFix p m c code 4 s #[Value.ref b] mx_big "ConstrainedCoderLaw") {lay : mx_Lay} {ad : Nat → Nat} {cA : Nat → ClassId} (hK : mx_K D cA lay s) (hD : ∀ w, va_D (lf_A s) (mx_cc ad cA lay w)) (hStr : mx_Str ad (lf_A s) s s.heap) {id idx f pc : Nat} {asr rest : List Value} {w : mx_Wd} {Qn : mx_Po}
    (hG : mx_ca lay 20 id (.ref 0 :: asr) w Qn) (hlk : ∀ mm, mx_mt id = some mm → Jvm.Cond.methodLink "ConstrainedCoderLaw" idx mm.1 ∈ mx_big) (hsz : ls.size = 4) (hiso : mx_isO lay 0 f = true) (hck : lf_okK id f asr.length = true) (hP : va_P D vwCl (mx_cc ad cA lay w) H) (hS : va_S (lf_A s) s.heap H locs) (hr : (rest.map fun v => v.category).sum ≤ 8) (has : asr.map (mx_cv ad) = asr) (hdg : decode code pc = .ok (.invokevirtual idx, 3))
    (kk : ∀ (v : Option Value) (w' : mx_Wd) (H1 : Heap) (locs1 : List Loc), Qn v w' → va_P D vwCl (mx_cc ad cA lay w') H1 → va_S (lf_A s) s.heap H1 locs1 → (∀ q : Nat, q < H.size → ¬ va_A (mx_cc ad cA lay w) H.size q → H1[q]? = H[q]?) → W p l e room_1 s m #[Value.ref b] below meth c H1 locs1 600000 7302250 Q (F0 m (pc + 3) ls ((v.map (mx_cv ad)).toList ++ rest))) :
    W p l e room_1 s m #[Value.ref b] below meth c H locs 600000 7302250 Q (F0 m pc ls (asr.reverse ++ .ref (ad 0) :: rest)) := by
  obtain ⟨mm, hm, hMet⟩ := mx_sem_ok mx_hy sr_rows l 20 id _ w Qn hG
  obtain ⟨hok, hcb, hib, hnm, hst⟩ := mx_hy.2.2.2.2.2.2.2.2.2.2.2.2.2.1 id mm hm
  have hgood := mx_hy.2.2.2.2.2.2.2.2.2.2.2.2.2.2
  have hts := F.2.2.2.2
  have hA : ∀ q : Nat, s.heap.size ≤ q → lf_A s q := fun _ h => h
  have hmax : mm.2.2.1 ≤ 45 := by
    have := hok
    unfold mx_okM at this
    simp only [Bool.and_eq_true, decide_eq_true_eq] at this
    exact this.1.1
  have hGI : GoodIn mx_big (mx_ws mx_big mm) := by
    intro w hw
    rcases List.mem_cons.mp hw with rfl | hw
    · exact ⟨hcb, good_of_word (hgood _ hcb)⟩
    · exact ⟨hw, good_of_word (hgood w hw)⟩
  have hFr : ∀ q, va_A (mx_cc ad cA lay w) H.size q → lf_A s q := fun q h => mx_WA hD hA hS h
  have hPcU : ∀ U : State, U.heap = H → s.WarmedH U.vm → mx_Pc ad cA D lay H.size (.ref 0 :: asr) w ((Value.ref 0 :: asr).map (mx_cv ad)).toArray U := by
    intro U hU hW
    refine ⟨rfl, by rw [hU], by rw [hU]; exact hP, hK.moved hW.alike, (hD w).weaken (fun _ _ _ _ => trivial), ?_⟩
    exact hStr.call hS (fun q h => mx_WA hD hA hS h) hW hU
  unfold lf_okK at hck
  rw [hm] at hck
  simp only [Bool.and_eq_true, beq_iff_eq, decide_eq_true_eq] at hck
  obtain ⟨⟨g1, g2⟩, g3⟩ := hck
  rw [if_neg (by rw [g1]; decide)] at hst
  obtain ⟨fs, hlay⟩ := mx_isO_x hiso
  have hcell := mx_cc_at (ad := ad) (cA := cA) (w := w) hlay
  obtain ⟨⟨C, TT, N⟩, hq, hC⟩ := Option.map_eq_some_iff.mp g2
  dsimp only at hC
  subst hC
  have hCB : CallB room_1 s #[Value.ref b] "ConstrainedCoderLaw" idx mm.1 mm.2.1 mm.2.2.1 mm.2.2.2.1 (mx_ws mx_big mm) (mx_rm 20) 0 0 asr.length :=
    callB_of asr.length hts hGI rfl rfl rfl (hts _ hib) (hts _ (hlk mm hm)) ⟨hnm.1, hnm.2, g3⟩ ⟨Nat.le_of_ble_eq_true rfl, by show 8 + (mm.2.2.1 + 11) + (64 * 20 + 400) ≤ 84000; omega⟩
  refine lf_callW (A1 := va_A (mx_cc ad cA lay w) H.size) (free := va_A (mx_cc ad cA lay w) H.size) (rest := rest) (Qa := Qn) (ar := ((Value.ref 0 :: asr).map (mx_cv ad)).toArray)
    (va_runV (n := asr.length) (As := asr.map (mx_cv ad)) (b := ad 0) F (hMet ad cA D H.size) ⟨hCB, hts _ hst.1, hts _ hst.2⟩ ⟨mx_Pc_blind, va_recv (hK.cl) hP hq hcell, fun U hU hW => hPcU U hU hW⟩ rfl (by simp) hsz (by rw [has] <;> rfl) (lv_room hr) hdg ⟨Nat.le_of_ble_eq_true rfl, Nat.le_of_ble_eq_true rfl⟩) hS (fun q _ h => hFr q h) hFr kk
/-- both calls: the answers stand on the stack -/
theorem lf_two (C : lf_X p s m c b L xs D aX aM kX kM) (h : lf_N s b D aX aM kX kM n a H locs ls) (hn : 6 * n + 6 ≤ L) {js : List Nat} {pc idX iX idM iM : Nat} {vx vm : Value} {a' : aS}
    (hX : ∀ w, RX w a → mx_ca mx_lX 20 idX (.ref 0 :: js.map (lf_v xs n)) w (fun o w' => o = some vx ∧ RX w' a')) (hM : ∀ w, RM w a → mx_ca mx_lM 20 idM (.ref 0 :: js.map (lf_v xs n)) w (fun o w' => o = some vm ∧ RM w' a')) (hv : vS a') (hx1 : mx_cv aX vx = vx) (hm1 : mx_cv aM vm = vm) (hx2 : vx.category ≤ 2)
    (chk : lf_ok2 pc js iX iM = true) (hkX : lf_okK idX 10 js.length = true) (hkM : lf_okK idM 11 js.length = true) (hlX : ∀ mm, mx_mt idX = some mm → Jvm.Cond.methodLink "ConstrainedCoderLaw" iX mm.1 ∈ mx_big) (hlM : ∀ mm, mx_mt idM = some mm → Jvm.Cond.methodLink "ConstrainedCoderLaw" iM mm.1 ∈ mx_big)
    (kk : ∀ (H' : Heap) (locs' : List Loc), lf_N s b D aX aM kX kM n a' H' locs' ls → W p l e room_1 s m #[Value.ref b] below meth c H' locs' 600000 7302250 Q (F0 m (lf_end pc js) ls [vm, vx])) :
    W p l e room_1 s m #[Value.ref b] below meth c H locs 600000 7302250 Q (F0 m pc ls []) := by
  obtain ⟨F, hXX, hbl, hL, hKX, hKM, hSX, hSM, hDD⟩ := id C
  obtain ⟨hva, ⟨wX, rX, pX⟩, ⟨wM, rM, pM⟩, hS, hl⟩ := id h
  obtain ⟨hx, hb, -, -, -⟩ := id F
  have hDX : ∀ w, va_D (lf_A s) (mx_cc aX kX mx_lX w) := fun w => (hDD w wM).by (fun k => k) (fun k q hk => by
    rw [List.getElem?_append_left (List.getElem?_eq_some_iff.mp hk).1]
    exact hk) (fun i j _ _ e => e)
  have hDM : ∀ w, va_D (lf_A s) (mx_cc aM kM mx_lM w) := fun w => (hDD wX w).by (fun k => (mx_cc aX kX mx_lX wX).length + k) (fun k q hk => by
    rw [List.getElem?_append_right (Nat.le_add_right _ _), Nat.add_sub_cancel_left]
    exact hk) (fun i j _ _ e => Nat.add_left_cancel e)
  simp only [lf_ok2, Bool.and_eq_true, decide_eq_true_eq] at chk
  obtain ⟨c1, c2, c3, c4, c5, c6⟩ := chk
  refine lv_aload_n hx hb c1 rfl (lv_at hl 2 rfl) ?_
  refine lf_args C h hn hS js (pc + 1) _ c2 ?_
  refine lf_call F hKX hDX hSX (hX wX rX) hlX hl.1 rfl (by rw [List.length_map]; exact hkX) pX hS (by simp) (lf_cv js) c3 (fun v w' H1 locs1 hq hP1 hS1 hk1 => ?_)
  obtain ⟨rfl, rX'⟩ := hq
  have pM1 := lf_keep (lf_sep (hDD wX wM)) pM hk1
  rw [show (Option.map (mx_cv aX) (some vx)).toList ++ ([] : List Value) = [vx] by rw [Option.map_some, hx1]; rfl]
  refine lv_aload_n hx hb c4 rfl (lv_at hl 1 rfl) ?_
  refine lf_args C h hn hS1 js _ _ c5 ?_
  refine lf_call F hKM hDM hSM (hM wM rM) hlM hl.1 rfl (by rw [List.length_map]; exact hkM) pM1 hS1 (by simp only [List.map_cons, List.map_nil, List.sum_cons, List.sum_nil]; omega) (lf_cv js) c6 (fun v w2 H2 locs2 hq2 hP2 hS2 hk2 => ?_)
  obtain ⟨rfl, rM'⟩ := hq2
  have pX2 := lf_keep (fun i j p q hp hq e => lf_sep (hDD w' wM) j i q p hq hp e.symm) hP1 hk2
  rw [show (Option.map (mx_cv aM) (some vm)).toList ++ [vx] = [vm, vx] by rw [Option.map_some, hm1]; rfl]
  exact kk H2 locs2 ⟨hv, ⟨w', rX', pX2⟩, ⟨w2, rM', hP2⟩, hS2, hl⟩
/-- a call that answers an int -/
theorem lf_int (C : lf_X p s m c b L xs D aX aM kX kM) (h : lf_N s b D aX aM kX kM n a H locs ls) (hn : 6 * n + 6 ≤ L) (js : List Nat) (pc idX iX idM iM : Nat) (off : Int) {r : aR}
    (chk : lf_okI pc js iX iM idX idM off = true) (hlX : ∀ mm, mx_mt idX = some mm → Jvm.Cond.methodLink "ConstrainedCoderLaw" iX mm.1 ∈ mx_big) (hlM : ∀ mm, mx_mt idM = some mm → Jvm.Cond.methodLink "ConstrainedCoderLaw" iM mm.1 ∈ mx_big)
    (hX : ∀ w, RX w a → mx_ca mx_lX 20 idX (.ref 0 :: js.map (lf_v xs n)) w (oQX r)) (hM : ∀ w, RM w a → mx_ca mx_lM 20 idM (.ref 0 :: js.map (lf_v xs n)) w (oQM r)) (hv : vS r.2)
    (kk : ∀ (a' : aS) (H' : Heap) (locs' : List Loc), lf_N s b D aX aM kX kM n a' H' locs' ls → W p l e room_1 s m #[Value.ref b] below meth c H' locs' 600000 7302250 Q (F0 m 1272 ls [])) :
    W p l e room_1 s m #[Value.ref b] below meth c H locs 600000 7302250 Q (F0 m pc ls []) := by
  obtain ⟨⟨hx, hb, -, -, -⟩, -⟩ := id C
  simp only [lf_okI, Bool.and_eq_true, decide_eq_true_eq] at chk
  obtain ⟨c1, c2, c3, c4, c5⟩ := chk
  refine lf_two C h hn (vx := .int r.1) (vm := .int r.1) (a' := r.2) hX hM hv rfl rfl (show 1 ≤ 2 from by decide) c1 c2 c3 hlX hlM (fun H' locs' h' => ?_)
  exact lv_icmp_eq hx hb c4 c5 (fun _ => kk r.2 H' locs' h') (fun z => absurd rfl z)
/-- a call that answers a long -/
theorem lf_long (C : lf_X p s m c b L xs D aX aM kX kM) (h : lf_N s b D aX aM kX kM n a H locs ls) (hn : 6 * n + 6 ≤ L) (js : List Nat) (pc idX iX idM iM : Nat) (off : Int) {r : Int64 × aS}
    (chk : lf_okJ pc js iX iM idX idM off = true) (hlX : ∀ mm, mx_mt idX = some mm → Jvm.Cond.methodLink "ConstrainedCoderLaw" iX mm.1 ∈ mx_big) (hlM : ∀ mm, mx_mt idM = some mm → Jvm.Cond.methodLink "ConstrainedCoderLaw" iM mm.1 ∈ mx_big)
    (hX : ∀ w, RX w a → mx_ca mx_lX 20 idX (.ref 0 :: js.map (lf_v xs n)) w (oQXl r)) (hM : ∀ w, RM w a → mx_ca mx_lM 20 idM (.ref 0 :: js.map (lf_v xs n)) w (oQMl r)) (hv : vS r.2)
    (kk : ∀ (a' : aS) (H' : Heap) (locs' : List Loc), lf_N s b D aX aM kX kM n a' H' locs' ls → W p l e room_1 s m #[Value.ref b] below meth c H' locs' 600000 7302250 Q (F0 m 1272 ls [])) :
    W p l e room_1 s m #[Value.ref b] below meth c H locs 600000 7302250 Q (F0 m pc ls []) := by
  obtain ⟨⟨hx, hb, -, -, -⟩, -⟩ := id C
  simp only [lf_okJ, Bool.and_eq_true, decide_eq_true_eq] at chk
  obtain ⟨c1, c2, c3, c4, c5, c6⟩ := chk
  refine lf_two C h hn (vx := .long r.1) (vm := .long r.1) (a' := r.2) hX hM hv rfl rfl (show 2 ≤ 2 from by decide) c1 c2 c3 hlX hlM (fun H' locs' h' => ?_)
  refine W.lcmp hx hb c4 ?_
  have e0 : lg_cmp r.1 r.1 = 0 := by
    unfold lg_cmp
    rw [if_neg (by simp), if_pos rfl]
  rw [e0]
  exact lv_if_eq hx hb c5 c6 (fun _ => kk r.2 H' locs' h') (fun z => absurd rfl z)
end LG
