/-! a book as the reference holds it: 111 numbers g -/
def vln (g : Nat → Int32) (p : Nat) : Nat := (g (12 + p)).toNatClampNeg
def vth (g : Nat → Int32) (s : Nat) : Bool := decide (s % 8 < vln g (s / 8))
def vtw (g : Nat → Int32) (s : Nat) : Bool := vth g s && decide (0 ≤ g (16 + 4 * s))
def vbl (g : Nat → Int32) (s : Nat) : Bool := vth g s && decide (g (16 + 4 * s) = -1)
def vbg (g : Nat → Int32) (s : Nat) : Nat := (g (15 + 4 * s)).toNatClampNeg
def vmn (g : Nat → Int32) (s : Nat) : Nat := (g (16 + 4 * s)).toNatClampNeg
def vwn (g : Nat → Int32) (s : Nat) : Nat := (g (17 + 4 * s)).toNatClampNeg
def vwr (g : Nat → Int32) (s : Nat) : Nat := (g (18 + 4 * s)).toNatClampNeg
/-- a book is in order: P persons of whom fm says who is a woman; no day is behind T -/
def VB (P T : Nat) (fm : Nat → Bool) (g : Nat → Int32) : Prop :=
  (∃ d, g 0 = nI d ∧ d ≤ T) ∧ (∀ p, p < 3 → ∃ n, n ≤ 8 ∧ g (12 + p) = nI n) ∧
  (∀ s, s < 24 → vth g s = true → (∃ d, g (15 + 4 * s) = nI d ∧ nI d ≤ g 0 ∧ d ≤ T) ∧
    (g (16 + 4 * s) = -1 ∨ g (16 + 4 * s) = -2 ∨ ((∃ m, m < P ∧ g (16 + 4 * s) = nI m ∧ fm m = false) ∧ (∃ w, w < P ∧ g (17 + 4 * s) = nI w ∧ fm w = true) ∧ ∃ d, g (18 + 4 * s) = nI d ∧ d ≤ T))) ∧
  (∀ s t, s < 24 → t < 24 → s / 8 = t / 8 → s ≤ t → vth g t = true → vbg g s ≤ vbg g t)
theorem VB_ln {P T : Nat} {fm : Nat → Bool} {g : Nat → Int32} (h : VB P T fm g) {p : Nat} (hp : p < 3) : g (12 + p) = nI (vln g p) ∧ vln g p ≤ 8 := by
  obtain ⟨n, hn, e⟩ := h.2.1 p hp
  have : vln g p = n := by unfold vln; rw [e]; exact nI_clamp (by omega)
  rw [this]
  exact ⟨e, hn⟩
theorem VB_bg {P T : Nat} {fm : Nat → Bool} {g : Nat → Int32} (h : VB P T fm g) (hT : T < 1000000) {s : Nat} (hs : s < 24) (ht : vth g s = true) : g (15 + 4 * s) = nI (vbg g s) ∧ vbg g s ≤ T := by
  obtain ⟨⟨d, e, -, hd⟩, -⟩ := h.2.2.1 s hs ht
  have : vbg g s = d := by unfold vbg; rw [e]; exact nI_clamp (by omega)
  rw [this]
  exact ⟨e, hd⟩
theorem vtw_th {g : Nat → Int32} {s : Nat} (h : vtw g s = true) : vth g s = true ∧ 0 ≤ g (16 + 4 * s) := by
  unfold vtw at h
  simpa using h
theorem m1_neg : ¬ (0 : Int32) ≤ -1 := by decide
theorem m2_neg : ¬ (0 : Int32) ≤ -2 := by decide
theorem VB_two {P T : Nat} {fm : Nat → Bool} {g : Nat → Int32} (h : VB P T fm g) (hP : P ≤ 8) (hT : T < 1000000) {s : Nat} (hs : s < 24) (ht : vtw g s = true) :
    g (16 + 4 * s) = nI (vmn g s) ∧ vmn g s < P ∧ fm (vmn g s) = false ∧ g (17 + 4 * s) = nI (vwn g s) ∧ vwn g s < P ∧ fm (vwn g s) = true ∧ g (18 + 4 * s) = nI (vwr g s) := by
  obtain ⟨h1, h2⟩ := vtw_th ht
  obtain ⟨-, h3⟩ := h.2.2.1 s hs h1
  rcases h3 with h3 | h3 | ⟨⟨m, hm, em, fm1⟩, ⟨w, hw, ew, fw⟩, ⟨d, ed, hd⟩⟩
  · rw [h3] at h2; exact absurd h2 m1_neg
  · rw [h3] at h2; exact absurd h2 m2_neg
  · have e1 : vmn g s = m := by unfold vmn; rw [em]; exact nI_clamp (by omega)
    have e2 : vwn g s = w := by unfold vwn; rw [ew]; exact nI_clamp (by omega)
    have e3 : vwr g s = d := by unfold vwr; rw [ed]; exact nI_clamp (by omega)
    rw [e1, e2, e3]
    exact ⟨em, hm, fm1, ew, hw, fw, ed⟩
