/-! printed by wip/p46/g_gen7.py: the start: both pictures behind the constructors, the empty state -/
theorem mm_row {q N : Nat} {rs : List Nat} {ad : Nat → Nat} (hl : rs.length = N) (h : ∀ i, i < N → (rs[i]?).map ad = some (q + 1 + i)) : (fun i => if i < N then some (q + 1 + i) else none) = fun i => (rs[i]?).map ad := by
  funext i
  by_cases hi : i < N
  · rw [if_pos hi, h i hi]
  · rw [if_neg hi, List.getElem?_eq_none (by omega)]
    rfl
/-- the picture by plain recursion -/
def rf (ad : Nat → Nat) (w : mx_Wd) (k : Nat) : Nat → List (Option Nat) → List Value
  | _, [] => []
  | j, o :: r => mx_fv ad w k j o :: rf ad w k (j + 1) r
theorem rf_at {ad : Nat → Nat} {w : mx_Wd} {k : Nat} : ∀ (fs : List (Option Nat)) (j i : Nat), (rf ad w k j fs)[i]? = (fs[i]?).map (fun o => mx_fv ad w k (j + i) o)
  | [], j, i => by simp [rf]
  | o :: r, j, 0 => by simp [rf]
  | o :: r, j, i + 1 => by
    have := rf_at (ad := ad) (w := w) (k := k) r (j + 1) i
    rw [show j + 1 + i = j + (i + 1) by omega] at this
    simpa [rf] using this
theorem rf_eq {ad : Nat → Nat} {w : mx_Wd} {k : Nat} {fs : List (Option Nat)} : mx_fs ad w k fs = rf ad w k 0 fs := by
  apply List.ext_getElem?
  intro i
  rw [rf_at]
  simp [mx_fs]
def rcl (ad : Nat → Nat) (cA : Nat → ClassId) (w : mx_Wd) (k : Nat) (c : (Nat × List (Option Nat)) ⊕ (Nat × Nat × List Nat)) : va_E := match c with
  | .inl o => .inr (o.1, rf ad w k 0 o.2)
  | .inr q => .inl (cA k, mx_av ad w k q.1 q.2.1 q.2.2)
theorem rcl_eq {ad : Nat → Nat} {cA : Nat → ClassId} {w : mx_Wd} {k : Nat} {c : (Nat × List (Option Nat)) ⊕ (Nat × Nat × List Nat)} : mx_cell ad cA w k c = rcl ad cA w k c := by
  cases c with
  | inl o =>
    unfold mx_cell rcl
    dsimp only
    rw [rf_eq]
  | inr q => rfl
def rc (ad : Nat → Nat) (cA : Nat → ClassId) (w : mx_Wd) : Nat → mx_Lay → va_W
  | _, [] => []
  | k, c :: r => (ad k, rcl ad cA w k c) :: rc ad cA w (k + 1) r
theorem rc_at {ad : Nat → Nat} {cA : Nat → ClassId} {w : mx_Wd} : ∀ (lay : mx_Lay) (k i : Nat), (rc ad cA w k lay)[i]? = (lay[i]?).map (fun c => (ad (k + i), rcl ad cA w (k + i) c))
  | [], k, i => by simp [rc]
  | c :: r, k, 0 => by simp [rc]
  | c :: r, k, i + 1 => by
    have := rc_at (ad := ad) (cA := cA) (w := w) r (k + 1) i
    rw [show k + 1 + i = k + (i + 1) by omega] at this
    simpa [rc] using this
theorem rc_eq {ad : Nat → Nat} {cA : Nat → ClassId} {w : mx_Wd} {lay : mx_Lay} : mx_cc ad cA lay w = rc ad cA w 0 lay := by
  apply List.ext_getElem?
  intro i
  rw [rc_at]
  simp [mx_cc, rcl_eq]
def wX0 : mx_Wd := (fun k j => bif (Nat.beq k 1 || Nat.beq k 62) && Nat.beq j 6 then 1 else 0, fun _ _ => 0, fun _ _ => 0, fun _ _ => 0)
def a0 : aS := ((0, 0, 1, fun _ => 0, fun _ => 0, fun _ => 0), (0, fun _ => 0), (0, fun _ => 0), none, fun _ => none, none)
theorem a0_v : vS a0 := by
  refine ⟨⟨by decide, by decide, by decide, by decide, fun e h => absurd h (Nat.not_lt_zero e)⟩, ⟨by decide, fun j h => absurd h (Nat.not_lt_zero j)⟩, ⟨by decide, fun j h => absurd h (Nat.not_lt_zero j)⟩, fun q h => (by cases h), fun i _ x h => (by cases h), fun p b h hh => (by cases hh)⟩
theorem st_X : RX wX0 a0 := by
  refine ⟨⟨by decide, by decide, by decide, fun x h => absurd h (Nat.not_lt_zero x), fun x h => absurd h (Nat.not_lt_zero x), fun x h => absurd h (Nat.not_lt_zero x)⟩, ⟨by decide, fun j h => absurd h (Nat.not_lt_zero j)⟩, ⟨by decide, fun j h => absurd h (Nat.not_lt_zero j)⟩, ?_, fun i _ => ?_, ?_, rVX.off fun p _ _ => ?_⟩
  · show mx_F wX0 0 12 = nI 0
    decide
  · show (0 : Int32) = nI 0
    decide
  · show mx_F wX0 48 3 = nI 0
    decide
  · show (0 : Int32) = nI 0
    decide
def adX (h : Nat) (qs : Nat → Nat) (ass : Nat → Nat → Nat) (sd : Nat → Nat) (k : Nat) : Nat := bif Nat.ble 1000 k then sd (k - 1000) else ([h, qs 0, ass 0 0, ass 0 1, ass 0 2, ass 0 3, qs 1, ass 1 0, qs 2, ass 2 0, qs 3, ass 3 0, ass 3 0 + 1 + 0, ass 3 0 + 1 + 1, ass 3 0 + 1 + 2, ass 3 0 + 1 + 3, ass 3 0 + 1 + 4, ass 3 1, ass 3 2, ass 3 3, ass 3 4, ass 3 5, ass 3 6, qs 4, ass 4 0, ass 4 0 + 1 + 0, ass 4 0 + 1 + 1, ass 4 0 + 1 + 2, ass 4 0 + 1 + 3, ass 4 0 + 1 + 4, ass 4 0 + 1 + 5, ass 4 0 + 1 + 6, ass 4 0 + 1 + 7, ass 4 0 + 1 + 8, ass 4 0 + 1 + 9, ass 4 0 + 1 + 10, qs 5, ass 5 0, ass 5 1, qs 6, ass 6 0, ass 6 1, ass 6 1 + 1 + 0, ass 6 1 + 1 + 1, ass 6 1 + 1 + 2, ass 6 1 + 1 + 3, ass 6 1 + 1 + 4, ass 6 2, qs 7, ass 7 0, ass 7 1, ass 7 2, qs 8, ass 8 0, ass 8 1, qs 9, ass 9 0, ass 9 0 + 1 + 0, ass 9 0 + 1 + 1, ass 9 0 + 1 + 2, ass 9 1, ass 9 2, qs 10, ass 10 0, ass 10 1, ass 10 2, ass 10 3, qs 11, ass 11 0] : List Nat).getD k 0
def cAX (css : Nat → Nat → ClassId) (k : Nat) : ClassId := ([0, 0, css 0 0, css 0 1, css 0 2, css 0 3, 0, css 1 0, 0, css 2 0, 0, css 3 0, css 3 1, css 3 1, css 3 1, css 3 1, css 3 1, css 3 2, css 3 3, css 3 4, css 3 5, css 3 6, css 3 7, 0, css 4 0, css 4 1, css 4 1, css 4 1, css 4 1, css 4 1, css 4 1, css 4 1, css 4 1, css 4 1, css 4 1, css 4 1, 0, css 5 0, css 5 1, 0, css 6 0, css 6 1, css 6 2, css 6 2, css 6 2, css 6 2, css 6 2, css 6 3, 0, css 7 0, css 7 1, css 7 2, 0, css 8 0, css 8 1, 0, css 9 0, css 9 1, css 9 1, css 9 1, css 9 2, css 9 3, 0, css 10 0, css 10 1, css 10 2, css 10 3, 0, css 11 0] : List Nat).getD k 0
theorem rc_ap {ad : Nat → Nat} {cA : Nat → ClassId} {w : mx_Wd} : ∀ {l1 l2 : mx_Lay} {k k2 : Nat} {A B : va_W}, k2 = k + l1.length → A = rc ad cA w k l1 → B = rc ad cA w k2 l2 → A ++ B = rc ad cA w k (l1 ++ l2)
  | [], l2, k, k2, A, B, h, e1, e2 => by
    subst h; subst e1; exact e2
  | c :: r, l2, k, k2, A, B, h, e1, e2 => by
    subst e1
    show _ :: (rc ad cA w (k + 1) r ++ B) = _ :: rc ad cA w (k + 1) (r ++ l2)
    rw [rc_ap (l1 := r) (l2 := l2) (k := k + 1) (k2 := k2) (by rw [h, List.length_cons]; omega) rfl e2]
def lX_0 : mx_Lay := [.inl (4, [some 2, some 3, some 4, some 5, none, none, none]), .inr (0, 64, []), .inr (0, 64, []), .inr (0, 64, []), .inr (0, 16, [])]
set_option maxRecDepth 100000 in
set_option maxHeartbeats 4000000 in
theorem eX_0 {h : Nat} {qs : Nat → Nat} {ass : Nat → Nat → Nat} {css : Nat → Nat → ClassId} {sd : Nat → Nat} : kW_X4 (qs 0) (ass 0) (css 0) = rc (adX h qs ass sd) (cAX css) wX0 1 lX_0 := by
  unfold kW_X4
  rfl
def lX_1 : mx_Lay := [.inl (8, [some 7, none]), .inr (0, 40, [])]
set_option maxRecDepth 100000 in
set_option maxHeartbeats 4000000 in
theorem eX_1 {h : Nat} {qs : Nat → Nat} {ass : Nat → Nat → Nat} {css : Nat → Nat → ClassId} {sd : Nat → Nat} : kW_X8 (qs 1) (ass 1) (css 1) = rc (adX h qs ass sd) (cAX css) wX0 6 lX_1 := by
  unfold kW_X8
  rfl
def lX_2 : mx_Lay := [.inl (1, [some 9, none]), .inr (0, 20, [])]
set_option maxRecDepth 100000 in
set_option maxHeartbeats 4000000 in
theorem eX_2 {h : Nat} {qs : Nat → Nat} {ass : Nat → Nat → Nat} {css : Nat → Nat → ClassId} {sd : Nat → Nat} : kW_X1 (qs 2) (ass 2) (css 2) = rc (adX h qs ass sd) (cAX css) wX0 8 lX_2 := by
  unfold kW_X1
  rfl
def lX_3 : mx_Lay := [.inl (6, [some 11, some 17, some 18, some 19, some 20, some 21, some 22, none, none]), .inr (4, 5, [12, 13, 14, 15, 16]), .inr (0, 16, []), .inr (0, 16, []), .inr (0, 16, []), .inr (0, 16, []), .inr (0, 16, []), .inr (0, 64, []), .inr (0, 64, []), .inr (0, 64, []), .inr (0, 64, []), .inr (0, 64, []), .inr (0, 64, [])]
set_option maxRecDepth 100000 in
set_option maxHeartbeats 4000000 in
theorem eX_3 {h : Nat} {qs : Nat → Nat} {ass : Nat → Nat → Nat} {css : Nat → Nat → ClassId} {sd : Nat → Nat} : kW_X6 (qs 3) (ass 3) (css 3) = rc (adX h qs ass sd) (cAX css) wX0 10 lX_3 := by
  have r0 : (fun i => if i < 5 then some (ass 3 0 + 1 + i) else none) = fun i => (([12, 13, 14, 15, 16] : List Nat)[i]?).map (adX h qs ass sd) := mm_row rfl (fun i hi => match i, hi with
    | 0, _ => rfl
    | 1, _ => rfl
    | 2, _ => rfl
    | 3, _ => rfl
    | 4, _ => rfl
    | n + 5, hh => absurd hh (by omega))
  unfold kW_X6
  rw [r0]
  rfl
def lX_4 : mx_Lay := [.inl (9, [some 24, none]), .inr (5, 11, [25, 26, 27, 28, 29, 30, 31, 32, 33, 34, 35]), .inr (2, 656, []), .inr (2, 656, []), .inr (2, 656, []), .inr (2, 656, []), .inr (2, 656, []), .inr (2, 656, []), .inr (2, 656, []), .inr (2, 656, []), .inr (2, 656, []), .inr (2, 656, []), .inr (2, 656, [])]
set_option maxRecDepth 100000 in
set_option maxHeartbeats 4000000 in
theorem eX_4 {h : Nat} {qs : Nat → Nat} {ass : Nat → Nat → Nat} {css : Nat → Nat → ClassId} {sd : Nat → Nat} : kW_X9 (qs 4) (ass 4) (css 4) = rc (adX h qs ass sd) (cAX css) wX0 23 lX_4 := by
  have r0 : (fun i => if i < 11 then some (ass 4 0 + 1 + i) else none) = fun i => (([25, 26, 27, 28, 29, 30, 31, 32, 33, 34, 35] : List Nat)[i]?).map (adX h qs ass sd) := mm_row rfl (fun i hi => match i, hi with
    | 0, _ => rfl
    | 1, _ => rfl
    | 2, _ => rfl
    | 3, _ => rfl
    | 4, _ => rfl
    | 5, _ => rfl
    | 6, _ => rfl
    | 7, _ => rfl
    | 8, _ => rfl
    | 9, _ => rfl
    | 10, _ => rfl
    | n + 11, hh => absurd hh (by omega))
  unfold kW_X9
  rw [r0]
  rfl
def lX_5 : mx_Lay := [.inl (5, [some 37, some 38]), .inr (3, 16, []), .inr (3, 16, [])]
set_option maxRecDepth 100000 in
set_option maxHeartbeats 4000000 in
theorem eX_5 {h : Nat} {qs : Nat → Nat} {ass : Nat → Nat → Nat} {css : Nat → Nat → ClassId} {sd : Nat → Nat} : kW_X5 (qs 5) (ass 5) (css 5) = rc (adX h qs ass sd) (cAX css) wX0 36 lX_5 := by
  unfold kW_X5
  rfl
def lX_6 : mx_Lay := [.inl (2, [some 40, some 41, some 47]), .inr (0, 5, []), .inr (4, 5, [42, 43, 44, 45, 46]), .inr (0, 16, []), .inr (0, 16, []), .inr (0, 16, []), .inr (0, 16, []), .inr (0, 16, []), .inr (0, 16, [])]
set_option maxRecDepth 100000 in
set_option maxHeartbeats 4000000 in
theorem eX_6 {h : Nat} {qs : Nat → Nat} {ass : Nat → Nat → Nat} {css : Nat → Nat → ClassId} {sd : Nat → Nat} : kW_X2 (qs 6) (ass 6) (css 6) = rc (adX h qs ass sd) (cAX css) wX0 39 lX_6 := by
  have r0 : (fun i => if i < 5 then some (ass 6 1 + 1 + i) else none) = fun i => (([42, 43, 44, 45, 46] : List Nat)[i]?).map (adX h qs ass sd) := mm_row rfl (fun i hi => match i, hi with
    | 0, _ => rfl
    | 1, _ => rfl
    | 2, _ => rfl
    | 3, _ => rfl
    | 4, _ => rfl
    | n + 5, hh => absurd hh (by omega))
  unfold kW_X2
  rw [r0]
  rfl
def lX_7 : mx_Lay := [.inl (3, [some 49, some 50, some 51, none, none, none, none]), .inr (0, 256, []), .inr (0, 64, []), .inr (0, 16, [])]
set_option maxRecDepth 100000 in
set_option maxHeartbeats 4000000 in
theorem eX_7 {h : Nat} {qs : Nat → Nat} {ass : Nat → Nat → Nat} {css : Nat → Nat → ClassId} {sd : Nat → Nat} : kW_X3 (qs 7) (ass 7) (css 7) = rc (adX h qs ass sd) (cAX css) wX0 48 lX_7 := by
  unfold kW_X3
  rfl
def lX_8 : mx_Lay := [.inl (0, [some 53, some 54]), .inr (0, 16, []), .inr (0, 16, [])]
set_option maxRecDepth 100000 in
set_option maxHeartbeats 4000000 in
theorem eX_8 {h : Nat} {qs : Nat → Nat} {ass : Nat → Nat → Nat} {css : Nat → Nat → ClassId} {sd : Nat → Nat} : kW_X0 (qs 8) (ass 8) (css 8) = rc (adX h qs ass sd) (cAX css) wX0 52 lX_8 := by
  unfold kW_X0
  rfl
def lX_9 : mx_Lay := [.inl (7, [some 56, some 60, some 61]), .inr (4, 3, [57, 58, 59]), .inr (0, 20, []), .inr (0, 20, []), .inr (0, 20, []), .inr (0, 3, []), .inr (1, 3, [])]
set_option maxRecDepth 100000 in
set_option maxHeartbeats 4000000 in
theorem eX_9 {h : Nat} {qs : Nat → Nat} {ass : Nat → Nat → Nat} {css : Nat → Nat → ClassId} {sd : Nat → Nat} : kW_X7 (qs 9) (ass 9) (css 9) = rc (adX h qs ass sd) (cAX css) wX0 55 lX_9 := by
  have r0 : (fun i => if i < 3 then some (ass 9 0 + 1 + i) else none) = fun i => (([57, 58, 59] : List Nat)[i]?).map (adX h qs ass sd) := mm_row rfl (fun i hi => match i, hi with
    | 0, _ => rfl
    | 1, _ => rfl
    | 2, _ => rfl
    | n + 3, hh => absurd hh (by omega))
  unfold kW_X7
  rw [r0]
  rfl
def lX_10 : mx_Lay := [.inl (4, [some 63, some 64, some 65, some 66, none, none, none]), .inr (0, 64, []), .inr (0, 64, []), .inr (0, 64, []), .inr (0, 16, [])]
set_option maxRecDepth 100000 in
set_option maxHeartbeats 4000000 in
theorem eX_10 {h : Nat} {qs : Nat → Nat} {ass : Nat → Nat → Nat} {css : Nat → Nat → ClassId} {sd : Nat → Nat} : kW_X4 (qs 10) (ass 10) (css 10) = rc (adX h qs ass sd) (cAX css) wX0 62 lX_10 := by
  unfold kW_X4
  rfl
def lX_11 : mx_Lay := [.inl (8, [some 68, none]), .inr (0, 40, [])]
set_option maxRecDepth 100000 in
set_option maxHeartbeats 4000000 in
theorem eX_11 {h : Nat} {qs : Nat → Nat} {ass : Nat → Nat → Nat} {css : Nat → Nat → ClassId} {sd : Nat → Nat} : kW_X8 (qs 11) (ass 11) (css 11) = rc (adX h qs ass sd) (cAX css) wX0 67 lX_11 := by
  unfold kW_X8
  rfl
set_option maxRecDepth 100000 in
set_option maxHeartbeats 4000000 in
theorem eX {h : Nat} {qs : Nat → Nat} {ass : Nat → Nat → Nat} {css : Nat → Nat → ClassId} {sd : Nat → Nat} : kW_X10 h qs ass css = mx_cc (adX h qs ass sd) (cAX css) mx_lX wX0 := by
  have hh : _ = rc (adX h qs ass sd) (cAX css) wX0 1 (((((((((((lX_0 ++ lX_1) ++ lX_2) ++ lX_3) ++ lX_4) ++ lX_5) ++ lX_6) ++ lX_7) ++ lX_8) ++ lX_9) ++ lX_10) ++ lX_11) := rc_ap (k2 := 67) rfl (rc_ap (k2 := 62) rfl (rc_ap (k2 := 55) rfl (rc_ap (k2 := 52) rfl (rc_ap (k2 := 48) rfl (rc_ap (k2 := 39) rfl (rc_ap (k2 := 36) rfl (rc_ap (k2 := 23) rfl (rc_ap (k2 := 10) rfl (rc_ap (k2 := 8) rfl (rc_ap (k2 := 6) rfl (eX_0) eX_1) eX_2) eX_3) eX_4) eX_5) eX_6) eX_7) eX_8) eX_9) eX_10) eX_11
  rw [rc_eq]
  unfold kW_X10
  rw [hh]
  rfl
set_option maxRecDepth 100000 in
set_option maxHeartbeats 16000000 in
theorem tX {css : Nat → Nat → ClassId} : ∀ (k kd n : Nat) (rs : List Nat), mx_lX[k]? = some (.inr (kd, n, rs)) → ∃ t : Nat, (kT_X10 css)[t]? = some (cAX css k, mx_kty kd) := by
  intro k kd n rs h
  match k, h with
  | 0, h => cases h
  | 1, h => cases h
  | 2, h => cases h; exact ⟨0, rfl⟩
  | 3, h => cases h; exact ⟨1, rfl⟩
  | 4, h => cases h; exact ⟨2, rfl⟩
  | 5, h => cases h; exact ⟨3, rfl⟩
  | 6, h => cases h
  | 7, h => cases h; exact ⟨4, rfl⟩
  | 8, h => cases h
  | 9, h => cases h; exact ⟨5, rfl⟩
  | 10, h => cases h
  | 11, h => cases h; exact ⟨6, rfl⟩
  | 12, h => cases h; exact ⟨7, rfl⟩
  | 13, h => cases h; exact ⟨7, rfl⟩
  | 14, h => cases h; exact ⟨7, rfl⟩
  | 15, h => cases h; exact ⟨7, rfl⟩
  | 16, h => cases h; exact ⟨7, rfl⟩
  | 17, h => cases h; exact ⟨8, rfl⟩
  | 18, h => cases h; exact ⟨9, rfl⟩
  | 19, h => cases h; exact ⟨10, rfl⟩
  | 20, h => cases h; exact ⟨11, rfl⟩
  | 21, h => cases h; exact ⟨12, rfl⟩
  | 22, h => cases h; exact ⟨13, rfl⟩
  | 23, h => cases h
  | 24, h => cases h; exact ⟨14, rfl⟩
  | 25, h => cases h; exact ⟨15, rfl⟩
  | 26, h => cases h; exact ⟨15, rfl⟩
  | 27, h => cases h; exact ⟨15, rfl⟩
  | 28, h => cases h; exact ⟨15, rfl⟩
  | 29, h => cases h; exact ⟨15, rfl⟩
  | 30, h => cases h; exact ⟨15, rfl⟩
  | 31, h => cases h; exact ⟨15, rfl⟩
  | 32, h => cases h; exact ⟨15, rfl⟩
  | 33, h => cases h; exact ⟨15, rfl⟩
  | 34, h => cases h; exact ⟨15, rfl⟩
  | 35, h => cases h; exact ⟨15, rfl⟩
  | 36, h => cases h
  | 37, h => cases h; exact ⟨16, rfl⟩
  | 38, h => cases h; exact ⟨17, rfl⟩
  | 39, h => cases h
  | 40, h => cases h; exact ⟨18, rfl⟩
  | 41, h => cases h; exact ⟨19, rfl⟩
  | 42, h => cases h; exact ⟨20, rfl⟩
  | 43, h => cases h; exact ⟨20, rfl⟩
  | 44, h => cases h; exact ⟨20, rfl⟩
  | 45, h => cases h; exact ⟨20, rfl⟩
  | 46, h => cases h; exact ⟨20, rfl⟩
  | 47, h => cases h; exact ⟨21, rfl⟩
  | 48, h => cases h
  | 49, h => cases h; exact ⟨22, rfl⟩
  | 50, h => cases h; exact ⟨23, rfl⟩
  | 51, h => cases h; exact ⟨24, rfl⟩
  | 52, h => cases h
  | 53, h => cases h; exact ⟨25, rfl⟩
  | 54, h => cases h; exact ⟨26, rfl⟩
  | 55, h => cases h
  | 56, h => cases h; exact ⟨27, rfl⟩
  | 57, h => cases h; exact ⟨28, rfl⟩
  | 58, h => cases h; exact ⟨28, rfl⟩
  | 59, h => cases h; exact ⟨28, rfl⟩
  | 60, h => cases h; exact ⟨29, rfl⟩
  | 61, h => cases h; exact ⟨30, rfl⟩
  | 62, h => cases h
  | 63, h => cases h; exact ⟨31, rfl⟩
  | 64, h => cases h; exact ⟨32, rfl⟩
  | 65, h => cases h; exact ⟨33, rfl⟩
  | 66, h => cases h; exact ⟨34, rfl⟩
  | 67, h => cases h
  | 68, h => cases h; exact ⟨35, rfl⟩
  | n + 69, h => cases h
theorem KX {D : va_G} {css : Nat → Nat → ClassId} {U : State} (h : va_K D vwCl (kT_X10 css) U) : mx_K D (cAX css) mx_lX U := ⟨h.1, fun k kd n rs hk => by obtain ⟨t, ht⟩ := tX (css := css) k kd n rs hk; exact h.2 t _ ht⟩
