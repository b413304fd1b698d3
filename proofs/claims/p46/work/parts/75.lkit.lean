/-! the law's methods in the small machine: a call of the class, the layout with one row more -/
def lE (n : Nat) : mx_Lay := mx_lX ++ [.inr (0, n, [])]
theorem lX_len : mx_lX.length = 69 := rfl
theorem lE_o {n : Nat} : (mx_isO (lE n) 0 10 = true) = True := eq_true rfl
theorem lE_a {n : Nat} : mx_arr (lE n) 69 = some (0, n, []) := rfl
section LK
variable {d id : Nat} {as : List Value} {w : mx_Wd} {r : aR} {Q : mx_Po} {bs : List (Nat × List mx_E)} {es : List mx_E} {l : mx_Lo} {st : List Value} {m a b c e f : Nat}
theorem lE_ld {n : Nat} {x : Int32} : mx_rn (lE n) d bs Q ((.iaload, m, a, b, c, e, f) :: es) l (.int x :: .ref 69 :: st) w = (vp_in x n ∧ mx_rn (lE n) d bs Q es l (.int (mx_A w 69 x.toNatClampNeg) :: st) w) := by rw [mx_r_iaload, lE_a, mx_wA_s]
theorem lE_st {n : Nat} {x y : Int32} : mx_rn (lE n) d bs Q ((.iastore, m, a, b, c, e, f) :: es) l (.int y :: .int x :: .ref 69 :: st) w = (vp_in x n ∧ mx_rn (lE n) d bs Q es l st (mx_sA w 69 (upd (mx_A w 69) x.toNatClampNeg y))) := by rw [mx_r_iastore, lE_a, mx_wA_s]
theorem q_L (hp : mx_ca mx_lX d id as w (oQX r)) (k : ∀ w', RX w' r.2 → Q (some (.int r.1)) w') : mx_ca mx_lX d id as w Q := mx_ca_m (fun v w' h => by rw [h.1]; exact k w' h.2) hp
theorem q_LL {t : Int64 × aS} (hp : mx_ca mx_lX d id as w (oQXl t)) (k : ∀ w', RX w' t.2 → Q (some (.long t.1)) w') : mx_ca mx_lX d id as w Q := mx_ca_m (fun v w' h => by rw [h.1]; exact k w' h.2) hp
theorem q_E {n : Nat} (hp : mx_ca mx_lX d id as w (oQX r)) (k : ∀ w', RX w' r.2 → mx_A w' 69 = mx_A w 69 → Q (some (.int r.1)) w') : mx_ca (lE n) d id as w Q :=
  mx_ca_m (fun v w' h => by rw [h.1.1]; exact k w' h.1.2 ((h.2 69 (by rw [lX_len]; exact Nat.le_refl _)).2.1)) (mx_sem_e (X := [.inr (0, n, [])]) mx_mt d id as w _ hp)
end LK
/-- what a state keeps of its snapshot -/
def sSnp (a : aS) : Option (aG × aW) := a.2.2.2.1
/-- the law's own method has found nothing, and the snapshot stands -/
def lQ (a : aS) : mx_Po := fun o w' => o = some (.int (nI 1)) ∧ ∃ a' : aS, RX w' a' ∧ vS a' ∧ sSnp a' = sSnp a
theorem lQ.at {a a' : aS} {w : mx_Wd} (h : RX w a') (v : vS a') (hs : sSnp a' = sSnp a) : lQ a (some (.int (nI 1))) w := ⟨rfl, a', h, v, hs⟩
theorem RX.row {w : mx_Wd} {a : aS} {f : Nat → Int32} (h : RX w a) : RX (mx_sA w 69 f) a := by
  have hA : ∀ k, k < 69 → mx_A (mx_sA w 69 f) k = mx_A w k := fun k hk => by rw [mx_A_A, if_neg (by omega)]
  have hF : ∀ k j, mx_F (mx_sA w 69 f) k j = mx_F w k j := fun k j => mx_F_A
  obtain ⟨r1, r2, r3, r4, r5, r6, r7⟩ := h
  refine ⟨r1.kept (hF _ _) (hF _ _) (hF _ _) (hA _ (by omega)) (hA _ (by omega)) (hA _ (by omega)), r2.kept (hF _ _) (hA _ (by omega)), r3.kept (hF _ _) (hA _ (by omega)), ?_, r5.kept (fun c h1 h2 => hA _ (by omega)), r6.kept (fun j => hF _ _) (hA _ (by omega)) (hA _ (by omega)), r7.kept fun k h1 h2 => hA k (by omega)⟩
  cases hq : a.2.2.2.1 with
  | none => rw [hq] at r4; exact (hF _ _).trans r4
  | some q =>
    rw [hq] at r4
    exact ⟨(hF _ _).trans r4.1, r4.2.1.kept (hF _ _) (hF _ _) (hF _ _) (hA _ (by omega)) (hA _ (by omega)) (hA _ (by omega)), r4.2.2.kept (hF _ _) (hA _ (by omega))⟩
