/-! the state of the system, in numbers: a graph (states, edges, label bits; starts, labels, ends), words, texts, slots, encoder; what class and reference hold of it -/
abbrev aG : Type := Nat × Nat × Nat × (Nat → Nat) × (Nat → Nat) × (Nat → Nat)
abbrev gN (g : aG) : Nat := g.1
abbrev gM (g : aG) : Nat := g.2.1
abbrev gB (g : aG) : Nat := g.2.2.1
abbrev gS (g : aG) : Nat → Nat := g.2.2.2.1
abbrev gL (g : aG) : Nat → Nat := g.2.2.2.2.1
abbrev gE (g : aG) : Nat → Nat := g.2.2.2.2.2
def vG (g : aG) : Prop := gN g ≤ 16 ∧ gM g ≤ 64 ∧ 1 ≤ gB g ∧ gB g ≤ 4 ∧ ∀ e, e < gM g → gS g e < gN g ∧ gL g e < 2 ^ gB g ∧ gE g e < gN g
/-- a word or a text: its length, its signs -/
abbrev aW : Type := Nat × (Nat → Nat)
def vW (x : aW) : Prop := x.1 ≤ 40 ∧ ∀ j, j < x.1 → x.2 j ≤ 1
def vT (x : aW) : Prop := x.1 ≤ 20 ∧ ∀ j, j < x.1 → 32 ≤ x.2 j ∧ x.2 j ≤ 126
abbrev aL : Type := Nat → Option aW
def vL (s : aL) : Prop := ∀ i, i < 3 → ∀ x, s i = some x → x.1 ≤ 20 ∧ ∀ j, j < x.1 → x.2 j ≤ 9999
/-- the encoder: data length, start, current state -/
abbrev aE : Type := Option (Nat × Nat × Nat)
def outD (g : aG) (s : Nat) : Nat := fb_ct (fun e => gS g e == s) (gM g)
def isEnc (g : aG) (p : Nat) : Prop := 0 < gN g ∧ ∀ s, s < gN g → 2 ^ p ≤ outD g s
def vE (g : aG) (n : aE) : Prop := ∀ p b h, n = some (p, b, h) → 1 ≤ p ∧ p ≤ 4 ∧ b < gN g ∧ h < gN g ∧ isEnc g p
/-- graph, word, text, snapshot, slots, encoder -/
abbrev aS : Type := aG × aW × aW × Option (aG × aW) × aL × aE
def vS (a : aS) : Prop := vG a.1 ∧ vW a.2.1 ∧ vT a.2.2.1 ∧ (∀ q, a.2.2.2.1 = some q → vG q.1 ∧ vW q.2) ∧ vL a.2.2.2.2.1 ∧ vE a.1 a.2.2.2.2.2
/-- a graph in cell k (fields i j h), its rows in the cells s l e -/
def rG (w : mx_Wd) (k i j h s l e : Nat) (g : aG) : Prop := mx_F w k i = nI (gN g) ∧ mx_F w k j = nI (gM g) ∧ mx_F w k h = nI (gB g) ∧ (∀ x, x < gM g → mx_A w s x = nI (gS g x)) ∧ (∀ x, x < gM g → mx_A w l x = nI (gL g x)) ∧ (∀ x, x < gM g → mx_A w e x = nI (gE g x))
def rW (w : mx_Wd) (k i c : Nat) (x : aW) : Prop := mx_F w k i = nI x.1 ∧ ∀ j, j < x.1 → mx_A w c j = nI (x.2 j)
/-- the place of an edge among those of its state, by labels, then numbers -/
def dn (g : aG) (e : Nat) : Nat := fb_ct (fun f => gS g f == gS g e && (decide (gL g f < gL g e) || (gL g f == gL g e && decide (f < e)))) (gM g)
def rEX (w : mx_Wd) (g : aG) (n : aE) : Prop := match n with
  | none => mx_F w 48 3 = nI 0
  | some q => mx_F w 48 3 = nI 1 ∧ mx_F w 48 4 = nI (2 ^ q.1) ∧ mx_F w 48 5 = nI q.2.1 ∧ mx_F w 48 6 = nI q.2.2 ∧ (∀ e, e < gM g → mx_A w 50 e = if dn g e < 2 ^ q.1 then nI (dn g e) else -(nI 5)) ∧ ∀ e, e < gM g → dn g e < 2 ^ q.1 → mx_A w 49 (gS g e * 16 + dn g e) = nI e
/-- the eigenvector rounds: from b everywhere, t rounds -/
def evR (g : aG) (p b : Nat) : Nat → Nat → Nat
  | 0, _ => b
  | t + 1, s => min (evR g p b t s) (fb_sm (fun e => if gS g e = s then evR g p b t (gE g e) else 0) (gM g) / 2 ^ p)
/-- what is left in the end: 16 * 32 rounds are enough -/
def evF (g : aG) (p b s : Nat) : Nat := evR g p b 513 s
def evOk (g : aG) (p b : Nat) : Bool := (List.range (gN g)).any fun s => evF g p b s != 0
/-- the least bound, 0 where there is none -/
def evB (g : aG) (p : Nat) : Nat := ((List.range 32).find? fun b => evOk g p (b + 1)).elim 0 (· + 1)
def evAns (g : aG) (p : Nat) : Int32 := if evB g p = 0 then -(nI 5) else nI (evB g p)
/-- what the class keeps of it: -5 where there is no element -/
def evT (g : aG) (p s : Nat) : Int32 := if evB g p ≠ 0 ∧ s < gN g then nI (evF g p (evB g p) s) else -(nI 5)
def rVX (w : mx_Wd) (g : aG) : Prop := ∀ p, 1 ≤ p → p ≤ 4 → mx_A w 40 p = nI 0 ∨ (mx_A w 40 p = evAns g p ∧ ∀ s, s < 16 → mx_A w (41 + 1 + p) s = evT g p s)
def rLX (w : mx_Wd) (s : aL) : Prop := ∀ i, i < 3 → match s i with
  | none => mx_A w 61 i = nI 0
  | some x => mx_A w 61 i = nI 1 ∧ mx_A w 60 i = nI x.1 ∧ ∀ j, j < x.1 → mx_A w (57 + i) j = nI (x.2 j)
def rSX (w : mx_Wd) (q : Option (aG × aW)) : Prop := match q with
  | none => mx_F w 0 12 = nI 0
  | some x => mx_F w 0 12 = nI 1 ∧ rG w 62 4 5 6 63 64 65 x.1 ∧ rW w 67 1 68 x.2
def RX (w : mx_Wd) (a : aS) : Prop := rG w 1 4 5 6 2 3 4 a.1 ∧ rW w 6 1 7 a.2.1 ∧ rW w 8 1 9 a.2.2.1 ∧ rSX w a.2.2.2.1 ∧ rLX w a.2.2.2.2.1 ∧ rEX w a.1 a.2.2.2.2.2 ∧ rVX w a.1
/-! what stays: a part of the state holds on where its cells are the same -/
theorem rG.kept {w w' : mx_Wd} {k i j h s l e : Nat} {g : aG} (r : rG w k i j h s l e g) (h1 : mx_F w' k i = mx_F w k i) (h2 : mx_F w' k j = mx_F w k j) (h3 : mx_F w' k h = mx_F w k h) (h4 : mx_A w' s = mx_A w s) (h5 : mx_A w' l = mx_A w l) (h6 : mx_A w' e = mx_A w e) : rG w' k i j h s l e g := by
  unfold rG at *
  rw [h1, h2, h3, h4, h5, h6]
  exact r
theorem rW.kept {w w' : mx_Wd} {k i c : Nat} {x : aW} (r : rW w k i c x) (h1 : mx_F w' k i = mx_F w k i) (h2 : mx_A w' c = mx_A w c) : rW w' k i c x := by
  unfold rW at *
  rw [h1, h2]
  exact r
theorem rEX.kept {w w' : mx_Wd} {g : aG} {n : aE} (r : rEX w g n) (h1 : ∀ j, mx_F w' 48 j = mx_F w 48 j) (h2 : mx_A w' 49 = mx_A w 49) (h3 : mx_A w' 50 = mx_A w 50) : rEX w' g n := by
  cases n with
  | none => exact (h1 3).trans r
  | some q =>
    unfold rEX at *
    dsimp only at *
    rw [h1, h1, h1, h1, h2, h3]
    exact r
theorem rVX.kept {w w' : mx_Wd} {g : aG} (r : rVX w g) (h1 : ∀ k, 40 ≤ k → k ≤ 46 → mx_A w' k = mx_A w k) : rVX w' g := by
  intro p hp hp4
  rw [h1 40 (by omega) (by omega), h1 (41 + 1 + p) (by omega) (by omega)]
  exact r p hp hp4
theorem rVX.off {w : mx_Wd} {g : aG} (h : ∀ p, 1 ≤ p → p ≤ 4 → mx_A w 40 p = nI 0) : rVX w g := fun p hp hp4 => Or.inl (h p hp hp4)
theorem rLX.kept {w w' : mx_Wd} {s : aL} (r : rLX w s) (h1 : ∀ k, 57 ≤ k → k ≤ 61 → mx_A w' k = mx_A w k) : rLX w' s := by
  intro i hi
  rw [h1 60 (by omega) (by omega), h1 61 (by omega) (by omega), h1 (57 + i) (by omega) (by omega)]
  exact r i hi
theorem rSX.kept {w w' : mx_Wd} {q : Option (aG × aW)} (r : rSX w q) (h0 : mx_F w' 0 12 = mx_F w 0 12) (h1 : ∀ k j, 62 ≤ k → mx_F w' k j = mx_F w k j) (h2 : ∀ k, 63 ≤ k → k ≠ 66 → mx_A w' k = mx_A w k) : rSX w' q := by
  cases q with
  | none => exact h0.trans r
  | some x => exact ⟨h0.trans r.1, r.2.1.kept (h1 _ _ (by omega)) (h1 _ _ (by omega)) (h1 _ _ (by omega)) (h2 _ (by omega) (by omega)) (h2 _ (by omega) (by omega)) (h2 _ (by omega) (by omega)), r.2.2.kept (h1 _ _ (by omega)) (h2 _ (by omega) (by omega))⟩
